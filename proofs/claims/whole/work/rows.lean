section
-- ===== PART A: goes FIRST, ahead of the names: the tables' words, and 'selects' of the private methods out of them =====
/-- a private method of a class that the tables say can be made, by its rows of tables_1 -/
def lw_okq (q : MethodName × Nat) : Prop := (q.1.cls ≠ "java/lang/invoke/MethodHandle" ∧ q.1.cls ≠ "java/lang/invoke/VarHandle") ∧ Cond.instantiable q.1.cls q.2 ∈ tables_1 ∧ Cond.privateMethod q.1 ∈ tables_1 ∧ Cond.instanceMethod q.1 ∈ tables_1
theorem lw_p0 : lw_okq (⟨"SignRoots", "save", "()V"⟩, 9) := ⟨⟨by decide +kernel, by decide +kernel⟩, List.mem_of_getElem? (i := 14) (by decide +kernel), List.mem_of_getElem? (i := 115) (by decide +kernel), List.mem_of_getElem? (i := 116) (by decide +kernel)⟩
theorem lw_p1 : lw_okq (⟨"SignRoots", "dropOldest", "()V"⟩, 9) := ⟨⟨by decide +kernel, by decide +kernel⟩, List.mem_of_getElem? (i := 14) (by decide +kernel), List.mem_of_getElem? (i := 119) (by decide +kernel), List.mem_of_getElem? (i := 120) (by decide +kernel)⟩
theorem lw_p2 : lw_okq (⟨"SignRoots", "errorPlace", "()I"⟩, 9) := ⟨⟨by decide +kernel, by decide +kernel⟩, List.mem_of_getElem? (i := 14) (by decide +kernel), List.mem_of_getElem? (i := 138) (by decide +kernel), List.mem_of_getElem? (i := 139) (by decide +kernel)⟩
theorem lw_p3 : lw_okq (⟨"java/lang/Throwable", "fillInStackTrace", "(I)Ljava/lang/Throwable;"⟩, 6) := ⟨⟨by decide +kernel, by decide +kernel⟩, List.mem_of_getElem? (i := 195) (by decide +kernel), List.mem_of_getElem? (i := 193) (by decide +kernel), List.mem_of_getElem? (i := 194) (by decide +kernel)⟩
theorem lw_p4 : lw_okq (⟨"SignRoots", "rootsOfSign", "(I)I"⟩, 9) := ⟨⟨by decide +kernel, by decide +kernel⟩, List.mem_of_getElem? (i := 14) (by decide +kernel), List.mem_of_getElem? (i := 225) (by decide +kernel), List.mem_of_getElem? (i := 226) (by decide +kernel)⟩
theorem lw_p5 : lw_okq (⟨"SignRoots", "withRootOne", "()I"⟩, 9) := ⟨⟨by decide +kernel, by decide +kernel⟩, List.mem_of_getElem? (i := 14) (by decide +kernel), List.mem_of_getElem? (i := 232) (by decide +kernel), List.mem_of_getElem? (i := 233) (by decide +kernel)⟩
theorem lw_p6 : lw_okq (⟨"SignRoots", "mixedPolynomial", "(J[I)J"⟩, 9) := ⟨⟨by decide +kernel, by decide +kernel⟩, List.mem_of_getElem? (i := 14) (by decide +kernel), List.mem_of_getElem? (i := 252) (by decide +kernel), List.mem_of_getElem? (i := 253) (by decide +kernel)⟩
theorem lw_p7 : lw_okq (⟨"SignRoots$Division", "fits", "(I)Z"⟩, 6) := ⟨⟨by decide +kernel, by decide +kernel⟩, List.mem_of_getElem? (i := 54) (by decide +kernel), List.mem_of_getElem? (i := 288) (by decide +kernel), List.mem_of_getElem? (i := 289) (by decide +kernel)⟩
theorem lw_p8 : lw_okq (⟨"SignRoots", "bestForm", "(I)I"⟩, 9) := ⟨⟨by decide +kernel, by decide +kernel⟩, List.mem_of_getElem? (i := 14) (by decide +kernel), List.mem_of_getElem? (i := 299) (by decide +kernel), List.mem_of_getElem? (i := 300) (by decide +kernel)⟩
theorem lw_p9 : lw_okq (⟨"SignRoots", "quotientsOf", "([II)I"⟩, 9) := ⟨⟨by decide +kernel, by decide +kernel⟩, List.mem_of_getElem? (i := 14) (by decide +kernel), List.mem_of_getElem? (i := 303) (by decide +kernel), List.mem_of_getElem? (i := 304) (by decide +kernel)⟩
theorem lw_p10 : lw_okq (⟨"SignRoots", "mixedPairs", "(J)J"⟩, 9) := ⟨⟨by decide +kernel, by decide +kernel⟩, List.mem_of_getElem? (i := 14) (by decide +kernel), List.mem_of_getElem? (i := 316) (by decide +kernel), List.mem_of_getElem? (i := 317) (by decide +kernel)⟩
theorem lw_p11 : lw_okq (⟨"SignRoots", "mixedWhole", "(J)J"⟩, 9) := ⟨⟨by decide +kernel, by decide +kernel⟩, List.mem_of_getElem? (i := 14) (by decide +kernel), List.mem_of_getElem? (i := 335) (by decide +kernel), List.mem_of_getElem? (i := 336) (by decide +kernel)⟩
theorem lw_p12 : lw_okq (⟨"SignRoots", "expandWhole", "()V"⟩, 9) := ⟨⟨by decide +kernel, by decide +kernel⟩, List.mem_of_getElem? (i := 14) (by decide +kernel), List.mem_of_getElem? (i := 339) (by decide +kernel), List.mem_of_getElem? (i := 340) (by decide +kernel)⟩
theorem lw_p13 : lw_okq (⟨"SignRoots", "mixedTexts", "(J)J"⟩, 9) := ⟨⟨by decide +kernel, by decide +kernel⟩, List.mem_of_getElem? (i := 14) (by decide +kernel), List.mem_of_getElem? (i := 343) (by decide +kernel), List.mem_of_getElem? (i := 344) (by decide +kernel)⟩
theorem lw_p14 : lw_okq (⟨"SignRoots", "degreesTogether", "()I"⟩, 9) := ⟨⟨by decide +kernel, by decide +kernel⟩, List.mem_of_getElem? (i := 14) (by decide +kernel), List.mem_of_getElem? (i := 463) (by decide +kernel), List.mem_of_getElem? (i := 464) (by decide +kernel)⟩
theorem lw_p15 : lw_okq (⟨"SignRootsModel", "fails", "(I)I"⟩, 13) := ⟨⟨by decide +kernel, by decide +kernel⟩, List.mem_of_getElem? (i := 560) (by decide +kernel), List.mem_of_getElem? (i := 620) (by decide +kernel), List.mem_of_getElem? (i := 621) (by decide +kernel)⟩
def lw_privs_1 : List (MethodName × Nat) := [(⟨"SignRoots", "save", "()V"⟩, 9), (⟨"SignRoots", "dropOldest", "()V"⟩, 9), (⟨"SignRoots", "errorPlace", "()I"⟩, 9), (⟨"java/lang/Throwable", "fillInStackTrace", "(I)Ljava/lang/Throwable;"⟩, 6), (⟨"SignRoots", "rootsOfSign", "(I)I"⟩, 9), (⟨"SignRoots", "withRootOne", "()I"⟩, 9), (⟨"SignRoots", "mixedPolynomial", "(J[I)J"⟩, 9), (⟨"SignRoots$Division", "fits", "(I)Z"⟩, 6), (⟨"SignRoots", "bestForm", "(I)I"⟩, 9), (⟨"SignRoots", "quotientsOf", "([II)I"⟩, 9), (⟨"SignRoots", "mixedPairs", "(J)J"⟩, 9), (⟨"SignRoots", "mixedWhole", "(J)J"⟩, 9), (⟨"SignRoots", "expandWhole", "()V"⟩, 9), (⟨"SignRoots", "mixedTexts", "(J)J"⟩, 9), (⟨"SignRoots", "degreesTogether", "()I"⟩, 9), (⟨"SignRootsModel", "fails", "(I)I"⟩, 13)]
theorem lw_r1 : ∀ q ∈ lw_privs_1, lw_okq q := List.forall_mem_cons.mpr ⟨lw_p0, List.forall_mem_cons.mpr ⟨lw_p1, List.forall_mem_cons.mpr ⟨lw_p2, List.forall_mem_cons.mpr ⟨lw_p3, List.forall_mem_cons.mpr ⟨lw_p4, List.forall_mem_cons.mpr ⟨lw_p5, List.forall_mem_cons.mpr ⟨lw_p6, List.forall_mem_cons.mpr ⟨lw_p7, List.forall_mem_cons.mpr ⟨lw_p8, List.forall_mem_cons.mpr ⟨lw_p9, List.forall_mem_cons.mpr ⟨lw_p10, List.forall_mem_cons.mpr ⟨lw_p11, List.forall_mem_cons.mpr ⟨lw_p12, List.forall_mem_cons.mpr ⟨lw_p13, List.forall_mem_cons.mpr ⟨lw_p14, List.forall_mem_cons.mpr ⟨lw_p15, fun _ h => absurd h List.not_mem_nil⟩⟩⟩⟩⟩⟩⟩⟩⟩⟩⟩⟩⟩⟩⟩⟩
theorem lw_p16 : lw_okq (⟨"SignRootsModel", "saves", "()V"⟩, 13) := ⟨⟨by decide +kernel, by decide +kernel⟩, List.mem_of_getElem? (i := 560) (by decide +kernel), List.mem_of_getElem? (i := 627) (by decide +kernel), List.mem_of_getElem? (i := 628) (by decide +kernel)⟩
theorem lw_p17 : lw_okq (⟨"SignRootsModel", "degree", "(I)I"⟩, 13) := ⟨⟨by decide +kernel, by decide +kernel⟩, List.mem_of_getElem? (i := 560) (by decide +kernel), List.mem_of_getElem? (i := 631) (by decide +kernel), List.mem_of_getElem? (i := 632) (by decide +kernel)⟩
theorem lw_p18 : lw_okq (⟨"SignRootsModel", "signAt", "(II)I"⟩, 13) := ⟨⟨by decide +kernel, by decide +kernel⟩, List.mem_of_getElem? (i := 560) (by decide +kernel), List.mem_of_getElem? (i := 635) (by decide +kernel), List.mem_of_getElem? (i := 636) (by decide +kernel)⟩
theorem lw_p19 : lw_okq (⟨"SignRootsModel", "refuses", "(I)I"⟩, 13) := ⟨⟨by decide +kernel, by decide +kernel⟩, List.mem_of_getElem? (i := 560) (by decide +kernel), List.mem_of_getElem? (i := 639) (by decide +kernel), List.mem_of_getElem? (i := 640) (by decide +kernel)⟩
theorem lw_p20 : lw_okq (⟨"SignRootsModel", "divides", "(II)I"⟩, 13) := ⟨⟨by decide +kernel, by decide +kernel⟩, List.mem_of_getElem? (i := 560) (by decide +kernel), List.mem_of_getElem? (i := 651) (by decide +kernel), List.mem_of_getElem? (i := 652) (by decide +kernel)⟩
theorem lw_p21 : lw_okq (⟨"SignRootsModel", "laysRow", "(II)V"⟩, 13) := ⟨⟨by decide +kernel, by decide +kernel⟩, List.mem_of_getElem? (i := 560) (by decide +kernel), List.mem_of_getElem? (i := 655) (by decide +kernel), List.mem_of_getElem? (i := 656) (by decide +kernel)⟩
theorem lw_p22 : lw_okq (⟨"SignRootsModel", "isQuotient", "(III)Z"⟩, 13) := ⟨⟨by decide +kernel, by decide +kernel⟩, List.mem_of_getElem? (i := 560) (by decide +kernel), List.mem_of_getElem? (i := 659) (by decide +kernel), List.mem_of_getElem? (i := 660) (by decide +kernel)⟩
theorem lw_p23 : lw_okq (⟨"SignRootsModel", "notes", "(II)V"⟩, 13) := ⟨⟨by decide +kernel, by decide +kernel⟩, List.mem_of_getElem? (i := 560) (by decide +kernel), List.mem_of_getElem? (i := 666) (by decide +kernel), List.mem_of_getElem? (i := 667) (by decide +kernel)⟩
theorem lw_p24 : lw_okq (⟨"SignRootsModel", "multiplies", "()V"⟩, 13) := ⟨⟨by decide +kernel, by decide +kernel⟩, List.mem_of_getElem? (i := 560) (by decide +kernel), List.mem_of_getElem? (i := 685) (by decide +kernel), List.mem_of_getElem? (i := 686) (by decide +kernel)⟩
theorem lw_p25 : lw_okq (⟨"SignRootsModel", "error", "()I"⟩, 13) := ⟨⟨by decide +kernel, by decide +kernel⟩, List.mem_of_getElem? (i := 560) (by decide +kernel), List.mem_of_getElem? (i := 701) (by decide +kernel), List.mem_of_getElem? (i := 702) (by decide +kernel)⟩
theorem lw_p26 : lw_okq (⟨"SignRootsModel", "degrees", "()I"⟩, 13) := ⟨⟨by decide +kernel, by decide +kernel⟩, List.mem_of_getElem? (i := 560) (by decide +kernel), List.mem_of_getElem? (i := 713) (by decide +kernel), List.mem_of_getElem? (i := 714) (by decide +kernel)⟩
theorem lw_p27 : lw_okq (⟨"SignRootsModel", "tells", "(II)I"⟩, 13) := ⟨⟨by decide +kernel, by decide +kernel⟩, List.mem_of_getElem? (i := 560) (by decide +kernel), List.mem_of_getElem? (i := 733) (by decide +kernel), List.mem_of_getElem? (i := 734) (by decide +kernel)⟩
theorem lw_p28 : lw_okq (⟨"SignRootsModel", "often", "(II)I"⟩, 13) := ⟨⟨by decide +kernel, by decide +kernel⟩, List.mem_of_getElem? (i := 560) (by decide +kernel), List.mem_of_getElem? (i := 737) (by decide +kernel), List.mem_of_getElem? (i := 738) (by decide +kernel)⟩
theorem lw_p29 : lw_okq (⟨"SignRootsModel", "has", "(II)Z"⟩, 13) := ⟨⟨by decide +kernel, by decide +kernel⟩, List.mem_of_getElem? (i := 560) (by decide +kernel), List.mem_of_getElem? (i := 748) (by decide +kernel), List.mem_of_getElem? (i := 749) (by decide +kernel)⟩
theorem lw_p30 : lw_okq (⟨"SignRootsModel", "bestForm", "(II)I"⟩, 13) := ⟨⟨by decide +kernel, by decide +kernel⟩, List.mem_of_getElem? (i := 560) (by decide +kernel), List.mem_of_getElem? (i := 764) (by decide +kernel), List.mem_of_getElem? (i := 765) (by decide +kernel)⟩
theorem lw_p31 : lw_okq (⟨"SignRootsModel", "rows", "(III)I"⟩, 13) := ⟨⟨by decide +kernel, by decide +kernel⟩, List.mem_of_getElem? (i := 560) (by decide +kernel), List.mem_of_getElem? (i := 772) (by decide +kernel), List.mem_of_getElem? (i := 773) (by decide +kernel)⟩
def lw_privs_2 : List (MethodName × Nat) := [(⟨"SignRootsModel", "saves", "()V"⟩, 13), (⟨"SignRootsModel", "degree", "(I)I"⟩, 13), (⟨"SignRootsModel", "signAt", "(II)I"⟩, 13), (⟨"SignRootsModel", "refuses", "(I)I"⟩, 13), (⟨"SignRootsModel", "divides", "(II)I"⟩, 13), (⟨"SignRootsModel", "laysRow", "(II)V"⟩, 13), (⟨"SignRootsModel", "isQuotient", "(III)Z"⟩, 13), (⟨"SignRootsModel", "notes", "(II)V"⟩, 13), (⟨"SignRootsModel", "multiplies", "()V"⟩, 13), (⟨"SignRootsModel", "error", "()I"⟩, 13), (⟨"SignRootsModel", "degrees", "()I"⟩, 13), (⟨"SignRootsModel", "tells", "(II)I"⟩, 13), (⟨"SignRootsModel", "often", "(II)I"⟩, 13), (⟨"SignRootsModel", "has", "(II)Z"⟩, 13), (⟨"SignRootsModel", "bestForm", "(II)I"⟩, 13), (⟨"SignRootsModel", "rows", "(III)I"⟩, 13)]
theorem lw_r2 : ∀ q ∈ lw_privs_2, lw_okq q := List.forall_mem_cons.mpr ⟨lw_p16, List.forall_mem_cons.mpr ⟨lw_p17, List.forall_mem_cons.mpr ⟨lw_p18, List.forall_mem_cons.mpr ⟨lw_p19, List.forall_mem_cons.mpr ⟨lw_p20, List.forall_mem_cons.mpr ⟨lw_p21, List.forall_mem_cons.mpr ⟨lw_p22, List.forall_mem_cons.mpr ⟨lw_p23, List.forall_mem_cons.mpr ⟨lw_p24, List.forall_mem_cons.mpr ⟨lw_p25, List.forall_mem_cons.mpr ⟨lw_p26, List.forall_mem_cons.mpr ⟨lw_p27, List.forall_mem_cons.mpr ⟨lw_p28, List.forall_mem_cons.mpr ⟨lw_p29, List.forall_mem_cons.mpr ⟨lw_p30, List.forall_mem_cons.mpr ⟨lw_p31, fun _ h => absurd h List.not_mem_nil⟩⟩⟩⟩⟩⟩⟩⟩⟩⟩⟩⟩⟩⟩⟩⟩
theorem lw_p32 : lw_okq (⟨"SignRootsModel", "isTooHigh", "(III)Z"⟩, 13) := ⟨⟨by decide +kernel, by decide +kernel⟩, List.mem_of_getElem? (i := 560) (by decide +kernel), List.mem_of_getElem? (i := 776) (by decide +kernel), List.mem_of_getElem? (i := 777) (by decide +kernel)⟩
theorem lw_p33 : lw_okq (⟨"SignRootsModel", "isThree", "(IIII)Z"⟩, 13) := ⟨⟨by decide +kernel, by decide +kernel⟩, List.mem_of_getElem? (i := 560) (by decide +kernel), List.mem_of_getElem? (i := 780) (by decide +kernel), List.mem_of_getElem? (i := 781) (by decide +kernel)⟩
theorem lw_p34 : lw_okq (⟨"SignRootsModel", "hasProduct", "(IIII)Z"⟩, 13) := ⟨⟨by decide +kernel, by decide +kernel⟩, List.mem_of_getElem? (i := 560) (by decide +kernel), List.mem_of_getElem? (i := 784) (by decide +kernel), List.mem_of_getElem? (i := 785) (by decide +kernel)⟩
theorem lw_p35 : lw_okq (⟨"SignRootsModel", "isAmong", "(IIII)Z"⟩, 13) := ⟨⟨by decide +kernel, by decide +kernel⟩, List.mem_of_getElem? (i := 560) (by decide +kernel), List.mem_of_getElem? (i := 792) (by decide +kernel), List.mem_of_getElem? (i := 793) (by decide +kernel)⟩
theorem lw_p36 : lw_okq (⟨"SignRootsModel", "only", "(IIII)I"⟩, 13) := ⟨⟨by decide +kernel, by decide +kernel⟩, List.mem_of_getElem? (i := 560) (by decide +kernel), List.mem_of_getElem? (i := 796) (by decide +kernel), List.mem_of_getElem? (i := 797) (by decide +kernel)⟩
theorem lw_p37 : lw_okq (⟨"SignRootsModel", "tellsCount", "(I)I"⟩, 13) := ⟨⟨by decide +kernel, by decide +kernel⟩, List.mem_of_getElem? (i := 560) (by decide +kernel), List.mem_of_getElem? (i := 808) (by decide +kernel), List.mem_of_getElem? (i := 809) (by decide +kernel)⟩
theorem lw_p38 : lw_okq (⟨"SignRootsModel", "rootsOf", "(I)I"⟩, 13) := ⟨⟨by decide +kernel, by decide +kernel⟩, List.mem_of_getElem? (i := 560) (by decide +kernel), List.mem_of_getElem? (i := 812) (by decide +kernel), List.mem_of_getElem? (i := 813) (by decide +kernel)⟩
theorem lw_p39 : lw_okq (⟨"SignRootsModel", "share", "(I)D"⟩, 13) := ⟨⟨by decide +kernel, by decide +kernel⟩, List.mem_of_getElem? (i := 560) (by decide +kernel), List.mem_of_getElem? (i := 820) (by decide +kernel), List.mem_of_getElem? (i := 821) (by decide +kernel)⟩
theorem lw_p40 : lw_okq (⟨"SignRootsModel", "hashes", "(J)V"⟩, 13) := ⟨⟨by decide +kernel, by decide +kernel⟩, List.mem_of_getElem? (i := 560) (by decide +kernel), List.mem_of_getElem? (i := 829) (by decide +kernel), List.mem_of_getElem? (i := 830) (by decide +kernel)⟩
theorem lw_p41 : lw_okq (⟨"SignRootsModel", "hashesPoly", "(I)V"⟩, 13) := ⟨⟨by decide +kernel, by decide +kernel⟩, List.mem_of_getElem? (i := 560) (by decide +kernel), List.mem_of_getElem? (i := 834) (by decide +kernel), List.mem_of_getElem? (i := 835) (by decide +kernel)⟩
def lw_privs_3 : List (MethodName × Nat) := [(⟨"SignRootsModel", "isTooHigh", "(III)Z"⟩, 13), (⟨"SignRootsModel", "isThree", "(IIII)Z"⟩, 13), (⟨"SignRootsModel", "hasProduct", "(IIII)Z"⟩, 13), (⟨"SignRootsModel", "isAmong", "(IIII)Z"⟩, 13), (⟨"SignRootsModel", "only", "(IIII)I"⟩, 13), (⟨"SignRootsModel", "tellsCount", "(I)I"⟩, 13), (⟨"SignRootsModel", "rootsOf", "(I)I"⟩, 13), (⟨"SignRootsModel", "share", "(I)D"⟩, 13), (⟨"SignRootsModel", "hashes", "(J)V"⟩, 13), (⟨"SignRootsModel", "hashesPoly", "(I)V"⟩, 13)]
theorem lw_r3 : ∀ q ∈ lw_privs_3, lw_okq q := List.forall_mem_cons.mpr ⟨lw_p32, List.forall_mem_cons.mpr ⟨lw_p33, List.forall_mem_cons.mpr ⟨lw_p34, List.forall_mem_cons.mpr ⟨lw_p35, List.forall_mem_cons.mpr ⟨lw_p36, List.forall_mem_cons.mpr ⟨lw_p37, List.forall_mem_cons.mpr ⟨lw_p38, List.forall_mem_cons.mpr ⟨lw_p39, List.forall_mem_cons.mpr ⟨lw_p40, List.forall_mem_cons.mpr ⟨lw_p41, fun _ h => absurd h List.not_mem_nil⟩⟩⟩⟩⟩⟩⟩⟩⟩⟩
def lw_privs : List (MethodName × Nat) := lw_privs_1 ++ (lw_privs_2 ++ (lw_privs_3))
def lw_tbl : List Cond := k2_sels lw_privs ++ tables_1
theorem lw_privs_ok : ∀ q ∈ lw_privs, lw_okq q := by
  show ∀ q ∈ lw_privs_1 ++ (lw_privs_2 ++ (lw_privs_3)), lw_okq q
  exact List.forall_mem_append.mpr ⟨lw_r1, List.forall_mem_append.mpr ⟨lw_r2, lw_r3⟩⟩
/-- the streams that the claim lets the run draw from -/
abbrev lw_cs : List Choice := [Jvm.Choice.named "NaN.bits"]
theorem lw_bits : nanBits ∈ lw_cs := by first | decide | exact List.mem_cons_self | simp [lw_cs, nanBits]
end
section
/-! ===== BEGIN words of one list among another's, by their places ===== -/
theorem goodIn_r {big : List Cond} (ws : List Cond) (ps : List Nat) (hp : ws = ps.filterMap (fun i => big[i]?)) (h : ws.all goodWord = true) : GoodIn big ws := by
  intro w hw
  have h1 := List.all_eq_true.mp h w hw
  rw [hp] at hw
  obtain ⟨i, -, hi⟩ := List.mem_filterMap.mp hw
  have hm : w ∈ big := by first | exact List.mem_of_getElem? hi | exact List.getElem?_mem hi
  exact ⟨hm, good_of_word h1⟩
theorem goodIn_app {big a b : List Cond} (ha : GoodIn big a) (hb : GoodIn big b) : GoodIn big (a ++ b) := fun w h => (List.mem_append.mp h).elim (ha w) (hb w)
theorem goodIn_ca {big a b : List Cond} {c : Cond} (ha : GoodIn big (c :: a)) (hb : GoodIn big b) : GoodIn big (c :: (a ++ b)) := fun w h => (List.mem_cons.mp h).elim (fun e => ha w (List.mem_cons.mpr (Or.inl e))) (fun h => (List.mem_append.mp h).elim (fun h => ha w (List.mem_cons.mpr (Or.inr h))) (hb w))
theorem goodIn_sub {big ws : List Cond} (hm : ∀ w ∈ ws, w ∈ big) (h : ws.all goodWord = true) : GoodIn big ws := fun w hw => ⟨hm w hw, good_of_word (List.all_eq_true.mp h w hw)⟩
/-! ===== END ===== -/

/-! ===== BEGIN new T[n][m]: the outer array a place, the inner ones among the pooled ===== -/
/-- f, but v at every address of l -/
def vr_up {α : Type} (f : Nat → α) (l : List Nat) (v : α) : Nat → α := fun a => if a ∈ l then v else f a
theorem vr_up_in {α : Type} {f : Nat → α} {l : List Nat} {v : α} {a : Nat} (h : a ∈ l) : vr_up f l v a = v := if_pos h
theorem vr_up_ne {α : Type} {f : Nat → α} {l : List Nat} {v : α} {a : Nat} (h : a ∉ l) : vr_up f l v a = f a := if_neg h
theorem vr_rows {L l : List Nat} {f : Nat → va_E} {e : va_E} (h : ∀ a, a ∈ l → a ∉ L) : va_pl L f ++ l.map (fun a => (a, e)) = va_pl (L ++ l) (vr_up f l e) := by
  unfold va_pl
  rw [List.map_append]
  congr 1
  · apply List.map_congr_left
    intro a ha
    rw [vr_up_ne (fun q => h a q ha)]
  · apply List.map_congr_left
    intro a ha
    rw [vr_up_in ha]
theorem vr_lay {X rows : va_W} {x : Nat × va_E} {pl : va_W} {D : va_G} {cl : List vw_C} {H : Heap} (hP : va_P D cl (((X ++ pl) ++ [x]) ++ rows) H) : va_P D cl ((X ++ [x]) ++ (pl ++ rows)) H := by
  rw [List.append_assoc (X ++ pl)] at hP
  have h := va_P.swap hP
  rw [← List.append_assoc X] at h
  have h2 := va_P.swap h
  rw [List.append_assoc (X ++ [x])] at h2
  exact h2
theorem vr_layD {X rows : va_W} {x : Nat × va_E} {pl : va_W} {A : Nat → Prop} (hD : va_D A (((X ++ pl) ++ [x]) ++ rows)) : va_D A ((X ++ [x]) ++ (pl ++ rows)) := by
  rw [List.append_assoc (X ++ pl)] at hD
  have h := va_D.swap hD
  rw [← List.append_assoc X] at h
  have h2 := va_D.swap h
  rw [List.append_assoc (X ++ [x])] at h2
  exact h2
theorem vr_outer (c : ClassId) (N h0 : Nat) : ∀ i : Nat, Jvm.Free.Multi.outerC c N h0 i = arrV c N (fun j => va_rf (if j < i then some (h0 + 1 + j) else none))
  | 0 => by
    show ({ cls := c, slots := Array.replicate N .null, vm := .none } : Cell) = _
    rw [arrV_new]
    refine congrArg (arrV c N) (funext fun j => ?_)
    simp [va_rf]
  | i + 1 => by
    show (Jvm.Free.Multi.outerC c N h0 i).setSlot i (.ref (h0 + 1 + i)) = _
    rw [vr_outer c N h0 i, arrV_store]
    refine congrArg (arrV c N) (funext fun j => ?_)
    by_cases e : j = i
    · subst e
      simp [updV, va_rf]
    · by_cases h : j < i
      · simp [updV, e, h, Nat.lt_succ_of_lt h]
      · simp [updV, e, h, show ¬ j < i + 1 by omega]
def va_AOA (ty : FieldType) (U : State) : Prop := (Cond.arrayOver (.array ty)).before #[] U = true
theorem va_AOA.use {ty : FieldType} {A : Array Value} {U : State} (h : va_AOA ty U) : (Cond.arrayOver (.array ty)).before A U = true := h
section VGM
variable {p : Program} {l : Launch} {e : Env} {R : Room} {s : State} {m : MethodId} {args : Array Value} {below : List Frame} {meth : Method} {c : Code} {H : Heap} {locs : List Loc} {cells slots : Nat} {Q : State → Prop}
variable {cc : ByteArray} {pc : Nat} {ls : Array Slot} {rest : List Value} {D : va_G} {cl : List vw_C} {A : Nat → Prop} {a : Nat} {tys : List (ClassId × FieldType)} {ws : va_W} {H0 : Heap}
theorem va_mna {X : va_W} {L : List Nat} {f : Nat → va_E} {cc : ByteArray} (hexec : p.tables.exec = Jvm.exec) (hb : c.code = cc) {own : String} {index : Nat} {ty : FieldType} {cy : ClassId} (hown : s.vm.findClass own = some m.cls) (hclink : (Cond.classLink own index ("[" ++ (FieldType.array ty).toString)).before args s = true) (hover : va_AOA ty s) (harr : (Cond.arrayClass ty).before args s = true) (hcy : s.vm.findClass (FieldType.array ty).toString = some cy)
    (hK : va_K D cl tys s) (hP : va_P D cl (X ++ va_pl L f) H) (hD : va_D A (X ++ va_pl L f)) (hS : va_S A H0 H locs) (hA : ∀ q, H0.size ≤ q → A q) {n k : Int32} {N' K' : Nat} {z : vp_A} (hn : ¬ n < 0) (hk : ¬ k < 0) (hN : n.toNatClampNeg = N') (hM : k.toNatClampNeg = K')
    (hb1 : N' * 4 ≤ 536870912) (hb2 : K' * componentBytes ty ≤ 536870912) (hb3 : K' ≤ 536870912) (hdf : fits ty (defaultValue ty) = true) (hdd : (defaultValue ty).isDefault = true) (hcells : cells + (1 + N') ≤ R.cells) (hslots : slots + (N' + N' * K') ≤ R.slots) (hz : ∀ c : ClassId, Jvm.Free.Multi.innerC c K' (defaultValue ty) = vp_cell c z) (hdg : decode cc pc = .ok (.multianewarray index 2, 4))
    (kk : ∀ (q : Nat) (r : Nat → Nat) (cA : ClassId) (H1 : Heap), (∀ i j : Nat, i < N' → j < N' → r i = r j → i = j) → (∀ i : Nat, i < N' → r i ∉ L) → va_K D cl (tys ++ [(cA, .array ty)]) s →
      va_P D cl ((X ++ [(q, .inl (cA, N', .inr (.inr (.inr (.inr (fun i => if i < N' then some (r i) else none))))))]) ++ va_pl (L ++ (List.range N').map r) (vr_up f ((List.range N').map r) (.inl (cy, z)))) H1 → va_D A ((X ++ [(q, .inl (cA, N', .inr (.inr (.inr (.inr (fun i => if i < N' then some (r i) else none))))))]) ++ va_pl (L ++ (List.range N').map r) (vr_up f ((List.range N').map r) (.inl (cy, z)))) → va_S A H0 H1 locs →
      W p l e R s m args below meth c H1 locs (cells + 1 + N') (slots + N' + N' * K') Q (F0 m (pc + 4) ls (.ref q :: rest))) : W p l e R s m args below meth c H locs cells slots Q (F0 m pc ls (.int k :: .int n :: rest)) := by
  subst hN
  subst hM
  intro T hT Xs
  obtain ⟨vm₁, cA, comp, -, fA, fC, hO, -, X', step⟩ := Xs.multianewarray2F hexec hown hclink (va_AOA.use hover) harr (g := F0 m pc ls (.int k :: .int n :: rest)) rfl (by rw [hb]; exact hdg) rfl hn hk hb1 hb2 hb3 hdf hdd hcells hslots
  have ec : some cy = some comp := hcy.symm.trans fC
  cases ec
  generalize hF : Jvm.Free.Multi.fill (T.setVm vm₁) cA cy n.toNatClampNeg k.toNatClampNeg (defaultValue ty) n.toNatClampNeg = F at X' step
  have hTh : (T.setVm vm₁).heap = H := hT
  obtain ⟨f1, f2, -, -⟩ := Jvm.Free.Multi.fill_facts (T.setVm vm₁) cA cy n.toNatClampNeg k.toNatClampNeg (defaultValue ty) n.toNatClampNeg
  rw [hF, hTh] at f1 f2
  have hold : ∀ x : Nat, x < H.size → F.heap[x]? = H[x]? := fun x hx => by
    have := Jvm.Free.Multi.fill_old (T.setVm vm₁) cA cy n.toNatClampNeg k.toNatClampNeg (defaultValue ty) (a := x) (by rw [hTh]; exact hx) n.toNatClampNeg
    rw [hF, hTh] at this
    exact this
  have hrow : ∀ j : Nat, j < n.toNatClampNeg → F.heap[H.size + 1 + j]? = some (vp_cell cy z) := fun j hj => by
    have := Jvm.Free.Multi.fill_inner (T.setVm vm₁) cA cy n.toNatClampNeg k.toNatClampNeg (defaultValue ty) n.toNatClampNeg j hj
    rw [hF, hTh, hz] at this
    exact this
  have hout : Jvm.Free.Multi.outerC cA n.toNatClampNeg H.size n.toNatClampNeg = vp_cell cA (n.toNatClampNeg, .inr (.inr (.inr (.inr (fun i => if i < n.toNatClampNeg then some (H.size + 1 + i) else none))))) := by
    rw [vp_cell_q]
    exact vr_outer cA n.toNatClampNeg H.size n.toNatClampNeg
  rw [hout] at f2
  have hlt : ∀ a, a ∈ L → a < H.size := fun a ha => by
    obtain ⟨k9, hk9⟩ := va_pl_get (X := X) (f := f) ha
    exact (hP k9 _ hk9).lt
  have hnl : ∀ i : Nat, i < n.toNatClampNeg → H.size + 1 + i ∉ L := fun i _ h => by
    have := hlt _ h
    omega
  have hnm : ∀ a, a ∈ (List.range n.toNatClampNeg).map (fun i => H.size + 1 + i) → a ∉ L := fun a ha h => by
    obtain ⟨i, -, rfl⟩ := List.mem_map.mp ha
    have := hlt _ h
    omega
  have hP0 : va_P D cl (X ++ va_pl L f) F.heap := hP.kept (fun k9 x hx => hold x.1 ((hP k9 x hx).lt))
  have hP1 : va_P D cl ((X ++ va_pl L f) ++ [(H.size, .inl (cA, n.toNatClampNeg, .inr (.inr (.inr (.inr (fun i => if i < n.toNatClampNeg then some (H.size + 1 + i) else none))))))]) F.heap := hP0.app (fun k9 x hx => by
    have h0 : k9 < 1 := (List.getElem?_eq_some_iff.mp hx).1
    rw [show k9 = 0 by omega] at hx
    cases hx
    exact f2)
  have hP2 : va_P D cl (((X ++ va_pl L f) ++ [(H.size, .inl (cA, n.toNatClampNeg, .inr (.inr (.inr (.inr (fun i => if i < n.toNatClampNeg then some (H.size + 1 + i) else none))))))]) ++ ((List.range n.toNatClampNeg).map (fun i => H.size + 1 + i)).map (fun a => (a, .inl (cy, z)))) F.heap := hP1.app (fun k9 x hx => by
    obtain ⟨a, ha, rfl⟩ := List.mem_map.mp (List.mem_of_getElem? hx)
    obtain ⟨i, hi, rfl⟩ := List.mem_map.mp ha
    exact hrow i (List.mem_range.mp hi))
  have hD2 : va_D A (((X ++ va_pl L f) ++ [(H.size, .inl (cA, n.toNatClampNeg, .inr (.inr (.inr (.inr (fun i => if i < n.toNatClampNeg then some (H.size + 1 + i) else none))))))]) ++ ((List.range n.toNatClampNeg).map (fun i => H.size + 1 + i)).map (fun a => (a, .inl (cy, z)))) := by
    have hD1 := hD.push (e := .inl (cA, n.toNatClampNeg, .inr (.inr (.inr (.inr (fun i => if i < n.toNatClampNeg then some (H.size + 1 + i) else none)))))) hP rfl (hA _ hS.1)
    generalize hW1 : (X ++ va_pl L f) ++ [(H.size, .inl (cA, n.toNatClampNeg, .inr (.inr (.inr (.inr (fun i => if i < n.toNatClampNeg then some (H.size + 1 + i) else none))))))] = W1 at hD1 hP1 ⊢
    have hle : ∀ (k9 : Nat) (x : Nat × va_E), W1[k9]? = some x → x.1 ≤ H.size := fun k9 x hx => by
      rw [← hW1] at hx
      by_cases hl : k9 < (X ++ va_pl L f).length
      · rw [List.getElem?_append_left hl] at hx
        exact Nat.le_of_lt ((hP k9 x hx).lt)
      · rw [List.getElem?_append_right (by omega)] at hx
        have h0 : k9 - (X ++ va_pl L f).length < 1 := (List.getElem?_eq_some_iff.mp hx).1
        rw [show k9 - (X ++ va_pl L f).length = 0 by omega] at hx
        cases hx
        exact Nat.le_refl _
    have hr : ∀ (k9 : Nat) (x : Nat × va_E), (((List.range n.toNatClampNeg).map (fun i => H.size + 1 + i)).map (fun a => ((a, .inl (cy, z)) : Nat × va_E)))[k9]? = some x → x.1 = H.size + 1 + k9 := fun k9 x hx => by
      rw [List.getElem?_map, List.getElem?_map] at hx
      by_cases h9 : k9 < n.toNatClampNeg
      · rw [List.getElem?_range h9] at hx
        cases hx
        rfl
      · have hn0 : (List.range n.toNatClampNeg)[k9]? = none := List.getElem?_eq_none (by rw [List.length_range]; omega)
        rw [hn0] at hx
        cases hx
    refine ⟨fun i j x y hi hj hxy => ?_, fun k9 x hx => ?_⟩
    · by_cases h1 : i < W1.length <;> by_cases h2 : j < W1.length
      · rw [List.getElem?_append_left h1] at hi
        rw [List.getElem?_append_left h2] at hj
        exact hD1.1 i j x y hi hj hxy
      · rw [List.getElem?_append_left h1] at hi
        rw [List.getElem?_append_right (by omega)] at hj
        have := hle _ _ hi
        have := hr _ _ hj
        omega
      · rw [List.getElem?_append_right (by omega)] at hi
        rw [List.getElem?_append_left h2] at hj
        have := hle _ _ hj
        have := hr _ _ hi
        omega
      · rw [List.getElem?_append_right (by omega)] at hi hj
        have := hr _ _ hi
        have := hr _ _ hj
        omega
    · by_cases h1 : k9 < W1.length
      · rw [List.getElem?_append_left h1] at hx
        exact hD1.2 k9 x hx
      · rw [List.getElem?_append_right (by omega)] at hx
        have := hr _ _ hx
        exact hA _ (by have := hS.1; omega)
  have hAr : ArrOfT s cA (.array ty) := fun N9 z9 => by
    obtain ⟨-, k9, hk9, cm9, hkk9⟩ := (hO 0 0 0).1
    exact ⟨(fun q hq => by cases hq), k9, hk9, cm9, hkk9⟩
  have hK2 : va_K D cl (tys ++ [(cA, .array ty)]) s := ⟨hK.1, fun k9 x hx => by
    by_cases hl : k9 < tys.length
    · rw [List.getElem?_append_left hl] at hx
      exact hK.2 k9 x hx
    · rw [List.getElem?_append_right (by omega)] at hx
      have h0 : k9 - tys.length < 1 := (List.getElem?_eq_some_iff.mp hx).1
      rw [show k9 - tys.length = 0 by omega] at hx
      cases hx
      exact ⟨hAr, fA⟩⟩
  obtain ⟨t, a1, b1⟩ := kk H.size (fun i => H.size + 1 + i) cA F.heap (fun i j _ _ h => by have h9 : H.size + 1 + i = H.size + 1 + j := h; omega) hnl hK2 (by rw [← vr_rows hnm]; exact vr_lay hP2) (by rw [← vr_rows hnm]; exact vr_layD hD2) ⟨by rw [f1]; have := hS.1; omega, fun x h1 h2 => (hold x (Nat.lt_of_lt_of_le h1 hS.1)).trans (hS.2.1 x h1 h2), hS.2.2⟩ F rfl X'
  refine ⟨t, step t ?_, b1⟩
  have e : T.heap.size = H.size := by rw [hT]
  rw [e]
  exact a1
end VGM
/-! ===== END ===== -/

/-! ===== BEGIN exceptions that leave a method, and their catching by the caller (launches without stack traces) ===== -/
section VXA
/-! The laws vx_back, vx_callV, vx_callS, vx_callSW, vx_throw0, vx_throwS follow proofs of the library, with one case more: JvmDerived/Free/Laws.lean (Back.of_free), Shelf42/LK1.lean (callV, callS), Shelf/KitTraced.lean (throwNew0V, throwNewS). -/
/-- where a method has thrown q: the class by its name, the cell, what was written, the world -/
def vx_T (XC : String → State → State → Prop) (st : State) (q : Addr) (t : State) (mc ms : Nat) (free : Addr → Prop) : Prop :=
  ∃ (E : String) (ce : Cell) (L : List Loc), XC E st t ∧ t.heap[q]? = some ce ∧ ce.vm = .none ∧ st.vm.findClass E = some ce.cls ∧ st.WarmedH t.vm ∧ st.sameButNew ({ t with vm := st.vm } : State) L mc ms ∧ ∀ z ∈ L, free z.base
def vx_Q (Qc : Array Value → State → Outcome → State → Prop) (XC : String → State → State → Prop) (mc ms : Nat) (free : Addr → Prop) : Array Value → State → Outcome → State → Prop := fun a st o t =>
  (Qc a st o t ∧ ∃ L, FrameEnd st o t L mc ms ∧ ∀ q ∈ L, free q.base) ∨ ∃ q, o = .threw q ∧ vx_T XC st q t mc ms free
/-- a callee that returns or throws -/
def vx_Met (l : Launch) (y : MethodName) (ws : List Cond) (rm : Room) (Pc : Array Value → State → Prop) (Qc : Array Value → State → Outcome → State → Prop) (XC : String → State → State → Prop) (mc ms : Nat) (free : Addr → Prop) : Prop :=
  MetFree l y (headSpec ws rm) Pc (fun _ _ _ _ _ => True) (vx_Q Qc XC mc ms free)
def vx_Post (XC : String → State → State → Prop) (mc ms : Nat) (free : Addr → Prop) : Pt → Array Value → Addr → Pt → Prop := fun A a q B =>
  ∃ (g : JFrame) (mk : MethodId) (t : State) (L : List Loc) (E : String) (ce : Cell), B.U.heap = t.heap ∧ B.U.vm = t.vm ∧ XC E (A.U.calling g mk a) t ∧ t.heap[q]? = some ce ∧ ce.vm = .none ∧ A.U.vm.findClass E = some ce.cls ∧ B.locs = A.locs ++ L ∧ (∀ z ∈ L, free z.base) ∧ B.cells = A.cells + mc ∧ B.slots = A.slots + ms
def vx_Back (l : Launch) (R : Room) (p : Program) (e : Env) (below : List Frame) (s : State) (sargs : Array Value) (y : MethodName) (len W9 : Nat)
    (Pre : Pt → Array Value → Prop) (Post : Pt → Array Value → Option Value → Pt → Prop) (PostX : Pt → Array Value → Addr → Pt → Prop) : Prop :=
  ∀ (m : MethodId) (meth : Method) (c : Code) (A : Pt) (g : JFrame) (ig : Instr) (mk : MethodId) (a : Array Value),
    Stand p l e R s m sargs below meth c A.U A.locs A.cells A.slots → g.method = m → g.locals.size = c.maxLocals → decode c.code g.pc = .ok (ig, len) →
    2 * g.monitorRoom + (g.stack.map fun v => v.category).sum ≤ W9 → A.U.methodNamed? y = some mk → Pre A a →
    (∃ (v : Option Value) (B : Pt), Stand p l e R s m sargs below meth c B.U B.locs B.cells B.slots ∧ Post A a v B ∧
      Steps p.tables e below (doInvoke e (A.U.setTop g) [] mk a).1 (B.U.setTop { g with pc := g.pc + len, stack := v.toList ++ g.stack })) ∨
    (∃ (q : Addr) (B : Pt), Stand p l e R s m sargs below meth c B.U B.locs B.cells B.slots ∧ PostX A a q B ∧
      Steps p.tables e below (doInvoke e (A.U.setTop g) [] mk a).1 ((B.U.setTop g).pushFrame (.throwing q)))
section Payer
variable {l : Launch} {R : Room} {p : Program} {e : Env} {below : List Frame} {s : State} {sargs : Array Value} {y : MethodName} {len W9 : Nat}
theorem vx_back {ws : List Cond} {rm : Room} {Pc : Array Value → State → Prop} {Qc : Array Value → State → Outcome → State → Prop} {XC : String → State → State → Prop} {mc ms : Nat} {free : Addr → Prop} {bytes : ByteArray} {maxL : Nat} {ret : Option FieldType}
    (hM : vx_Met l y ws rm Pc Qc XC mc ms free) (hblind : FrameBlind Pc) (hrc : rm.cells = mc) (hrs : rm.slots = ms)
    (hframes : rm.frames + 1 ≤ R.frames) (hlocals : W9 + (maxL + 11) + rm.locals ≤ R.locals)
    (hws : ∀ w ∈ ws, ∀ a' U, s.WarmedH U.vm → w.before a' U = true) (hcode : Cond.code y bytes maxL ret ∈ ws) (hinit : ∀ a' U, s.WarmedH U.vm → (Cond.initialized y.cls).before a' U = true) :
    vx_Back l R p e below s sargs y len W9 (PreOf R mc ms Pc) (PostOf Qc mc ms free) (vx_Post XC mc ms free) := by
  intro m meth c A g ig mk a X hg hsize hdg hW hn hp
  have h1 : (headSpec ws rm).pre.before a A.U = true := atoms_intro fun w hw => hws w hw _ _ X.warmed
  have h2 : (Cond.code y bytes maxL ret).before a A.U = true := hws _ hcode _ _ X.warmed
  have h3 : (Cond.initialized y.cls).before a A.U = true := hinit _ _ X.warmed
  have h4 : A.cells + (headSpec ws rm).room.cells ≤ R.cells := by rw [show (headSpec ws rm).room.cells = mc from hrc]; exact hp.1
  have h5 : A.slots + (headSpec ws rm).room.slots ≤ R.slots := by rw [show (headSpec ws rm).room.slots = ms from hrs]; exact hp.2.1
  have hPc : Pc a (A.U.calling g mk a) := hblind _ _ _ _ hp.2.2
  obtain ⟨U, Ls, c0, s0⟩ := A
  dsimp only [Pt.U, Pt.locs, Pt.cells, Pt.slots] at h1 h2 h3 h4 h5 X hn hPc ⊢
  obtain ⟨methY, cY, hmY, hcY, -, hlY, -, -, -, -⟩ := Cond.code_spec hn h2
  obtain ⟨kY, hkY, -⟩ := className_of_methodNamed hn
  have hinitY : kY.init = .initialized := Cond.initialized_spec (findClass_of_methodNamed hn) hkY h3
  have h : At U g.method c below := by rw [hg]; exact X.here
  have hlocals9 : W9 + (maxL + 11) + (headSpec ws rm).room.locals ≤ R.locals := hlocals
  have happ : (headSpec ws rm).appliesLoose y e.platform (U.calling g mk a) = true :=
    Spec.appliesLoose_calling (g := g) h hdg hn hkY hinitY
      (X.room_calling (g := g) (R' := (headSpec ws rm).room) hsize hmY hcY hframes (by rw [hlY]; omega) h4 h5) h1
  obtain ⟨mid, hmid⟩ := h.above
  have hfr : (U.setTop g).frames = (.java g :: mid) ++ below := by rw [State.frames_setTop' g h.top, hmid]; rfl
  obtain ⟨o, s₂, hsteps, -, hend, hq⟩ := Steps.callFree hM p X.admits X.cas X.clock (acts := []) hfr happ hPc trivial
  have hq' : vx_Q Qc XC mc ms free a (U.calling g mk a) o s₂ := hq
  rw [State.frames_setTop' g h.top] at hend
  obtain ⟨g₀, hg0⟩ := Option.isSome_iff_exists.mp h.top
  obtain ⟨r, hr⟩ := State.topJava?_eq_some.mp hg0
  have hr' : (({ U with heap := s₂.heap, slotsUsed := s₂.slotsUsed } : State).setVm s₂.vm).frames = .java g₀ :: r := hr
  rcases hq' with ⟨hqc, L, hfe, hL⟩ | ⟨q, rfl, E, ce, L, hx, hce, hcv, hcl, hW₂, hsm, hL⟩
  · obtain ⟨⟨v, rfl⟩, hW₂, e2, q2, q3, q4, q5, q6⟩ := id hfe
    have e3 : s₂ = ({ (U.calling g mk a).setFrames s₂.frames with heap := s₂.heap, slotsUsed := s₂.slotsUsed } : State).setVm s₂.vm := by
      have : s₂ = ({ s₂ with vm := (U.calling g mk a).vm } : State).setVm s₂.vm := rfl
      rw [e2] at this
      exact this
    obtain ⟨c₂, i₂, len₂, hc₂, hd₂, hf₂⟩ := hend
    have hW' : U.WarmedH s₂.vm := hW₂
    have hcc : c₂ = c := by
      have h1 : s₂.code? g.method = U.code? g.method := by
        rw [State.code?_eq, State.code?_eq, hW'.alike.method?]
      exact Option.some.inj (hc₂.symm.trans (h1.trans h.code))
    subst hcc
    have hlen : len₂ = len := by rw [hdg] at hd₂; cases hd₂; rfl
    subst hlen
    have hs₂ : s₂ = (({ U with heap := s₂.heap, slotsUsed := s₂.slotsUsed } : State).setVm s₂.vm).setTop { g with pc := g.pc + len₂, stack := v.toList ++ g.stack } := by
      refine e3.trans ?_
      rw [hf₂, State.calling_eq h.top, State.setFrames_setFrames, State.setTop_of_frames _ hr', hr]
      rfl
    have hsame : U.sameButNew ({ U with heap := s₂.heap, slotsUsed := s₂.slotsUsed } : State) L mc ms := by
      refine ⟨?_, q2, q3, q4, q5, q6⟩
      obtain ⟨t, ht, -⟩ := State.frames_cons hr
      show ({ U with heap := s₂.heap, slotsUsed := s₂.slotsUsed } : State) = { U.setFrames U.frames with heap := s₂.heap, slotsUsed := s₂.slotsUsed }
      rw [State.setFrames_self ht]
    subst hg
    refine Or.inl ⟨v, ⟨(({ U with heap := s₂.heap, slotsUsed := s₂.slotsUsed } : State).setVm s₂.vm), Ls ++ L, c0 + mc, s0 + ms⟩,
      ⟨X.admits, X.cas, X.clock, X.frames, X.room, X.hears, X.method, X.code, (X.here.setHeapUsed s₂.heap s₂.slotsUsed).setVm hW'.alike, X.tail, State.WarmedH.trans X.warmed hW', X.limits, X.bytes, X.same.trans (hsame.setVm s.vm)⟩,
      ⟨g, mk, s₂, L, rfl, rfl, hqc, rfl, hL, rfl, rfl⟩, ?_⟩
    show Steps p.tables e below _ ((({ U with heap := s₂.heap, slotsUsed := s₂.slotsUsed } : State).setVm s₂.vm).setTop { g with pc := g.pc + len₂, stack := v.toList ++ g.stack })
    rw [← hs₂]
    exact hsteps
  · obtain ⟨e2, q2, q3, q4, q5, q6⟩ := id hsm
    have e3 : s₂ = ({ (U.calling g mk a).setFrames s₂.frames with heap := s₂.heap, slotsUsed := s₂.slotsUsed } : State).setVm s₂.vm := by
      have : s₂ = ({ s₂ with vm := (U.calling g mk a).vm } : State).setVm s₂.vm := rfl
      rw [e2] at this
      exact this
    have hf₂ : s₂.frames = .throwing q :: .java g :: U.frames.tail := hend
    have hW' : U.WarmedH s₂.vm := hW₂
    have hs₂ : s₂ = ((({ U with heap := s₂.heap, slotsUsed := s₂.slotsUsed } : State).setVm s₂.vm).setTop g).pushFrame (.throwing q) := by
      refine e3.trans ?_
      rw [hf₂, State.calling_eq h.top, State.setFrames_setFrames, State.pushFrame, State.frames_setTop _ hr', State.setTop_of_frames _ hr', State.setFrames_setFrames, hr]
      rfl
    have hsame : U.sameButNew ({ U with heap := s₂.heap, slotsUsed := s₂.slotsUsed } : State) L mc ms := by
      refine ⟨?_, q2, q3, q4, q5, q6⟩
      obtain ⟨t, ht, -⟩ := State.frames_cons hr
      show ({ U with heap := s₂.heap, slotsUsed := s₂.slotsUsed } : State) = { U.setFrames U.frames with heap := s₂.heap, slotsUsed := s₂.slotsUsed }
      rw [State.setFrames_self ht]
    subst hg
    refine Or.inr ⟨q, ⟨(({ U with heap := s₂.heap, slotsUsed := s₂.slotsUsed } : State).setVm s₂.vm), Ls ++ L, c0 + mc, s0 + ms⟩,
      ⟨X.admits, X.cas, X.clock, X.frames, X.room, X.hears, X.method, X.code, (X.here.setHeapUsed s₂.heap s₂.slotsUsed).setVm hW'.alike, X.tail, State.WarmedH.trans X.warmed hW', X.limits, X.bytes, X.same.trans (hsame.setVm s.vm)⟩,
      ⟨g, mk, s₂, L, E, ce, rfl, rfl, hx, hce, hcv, hcl, rfl, hL, rfl, rfl⟩, ?_⟩
    show Steps p.tables e below _ (((({ U with heap := s₂.heap, slotsUsed := s₂.slotsUsed } : State).setVm s₂.vm).setTop g).pushFrame (.throwing q))
    rw [← hs₂]
    exact hsteps
end Payer
section Calls
variable {p : Program} {l : Launch} {e : Env} {R : Room} {s : State} {m : MethodId} {args : Array Value} {below : List Frame} {meth : Method} {c : Code} {T : State} {locs : List Loc} {cells slots : Nat}
theorem vx_callV (X : Stand p l e R s m args below meth c T locs cells slots) (hexec : p.tables.exec = Jvm.exec) {own C : String} {index : Nat} {y : MethodName} {bytes : ByteArray} {maxL : Nat} {ret : Option FieldType}
    (hown : s.vm.findClass own = some m.cls) (hlink : (Cond.methodLink own index y).before args s = true) (hinst : (Cond.instanceMethod y).before args s = true) (hsel : (Cond.selects C y y).before args s = true)
    (hcode : (Cond.code y bytes maxL ret).before args s = true) (hy : y.cls ≠ "java/lang/invoke/MethodHandle" ∧ y.cls ≠ "java/lang/invoke/VarHandle")
    {W9 : Nat} {Pre : Pt → Array Value → Prop} {Post : Pt → Array Value → Option Value → Pt → Prop} {PostX : Pt → Array Value → Addr → Pt → Prop} (hK : vx_Back l R p e below s args y 3 W9 Pre Post PostX)
    {b : Addr} {cellB : Cell} (hcell : T.heap[b]? = some cellB) (hobj : cellB.vm.isStatics = false) (hcls : s.vm.findClass C = some cellB.cls)
    {g : JFrame} (hg : g.method = m) (hsize : g.locals.size = c.maxLocals) {argsL rest : List Value} (hlen : ∀ sig, parseMethodDescriptor y.desc = some sig → argsL.length = sig.parameters.length)
    (hstack : g.stack = argsL.reverse ++ .ref b :: rest) (hW : 2 * g.monitorRoom + (rest.map fun v => v.category).sum ≤ W9) (hdg : decode c.code g.pc = .ok (.invokevirtual index, 3))
    (hpre : ∀ vm₁, s.WarmedH vm₁ → Pre ⟨T.setVm vm₁, locs, cells, slots⟩ (Value.ref b :: argsL).toArray) :
    (∃ (v : Option Value) (vm₁ : Vm) (B : Pt), s.WarmedH vm₁ ∧ Stand p l e R s m args below meth c B.U B.locs B.cells B.slots ∧ Post ⟨T.setVm vm₁, locs, cells, slots⟩ (Value.ref b :: argsL).toArray v B ∧
      ∀ target, Steps p.tables e below (B.U.setTop { g with pc := g.pc + 3, stack := v.toList ++ rest }) target → Steps p.tables e below (T.setTop g) target) ∨
    (∃ (q : Addr) (vm₁ : Vm) (B : Pt), s.WarmedH vm₁ ∧ Stand p l e R s m args below meth c B.U B.locs B.cells B.slots ∧ PostX ⟨T.setVm vm₁, locs, cells, slots⟩ (Value.ref b :: argsL).toArray q B ∧
      Steps p.tables e below (T.setTop g) ((B.U.setTop { g with stack := rest }).pushFrame (.throwing q))) := by
  obtain ⟨mk, methM, hnamed, hmethM, hstM, habM⟩ := Cond.instanceMethod_spec hinst
  obtain ⟨methM', cM, hmethM', -, -, -, -, -, -, hsigM⟩ := Cond.code_spec hnamed hcode
  cases hmethM.symm.trans hmethM'
  obtain ⟨c2, r2, m2, q1, q2, q3, q4, kP, hkP, hkPi⟩ := Cond.selects_spec hsel
  cases hcls.symm.trans q1
  cases (State.methodFound?_of_named hnamed hy).symm.trans q2
  cases hnamed.symm.trans q3
  have hselP : selectMethod e.platform s.vm cellB.cls mk = .method mk := by rw [Launch.admits_selectMethod X.admits]; exact q4
  obtain ⟨vm₁, X₁, hstep₁⟩ := X.invokevirtual hexec hown hlink hnamed hmethM hstM hkP hkPi hy (a := b) (cell := cellB) hcell
    (fun z h => by rw [h] at hobj; cases hobj) hselP hmethM habM hkP hkPi (g := g) hg (argsL := argsL) (rest := rest) (hlen _ hsigM) hstack hdg
  rcases hK m meth c ⟨T.setVm vm₁, locs, cells, slots⟩ { g with stack := rest } (.invokevirtual index) mk (Value.ref b :: argsL).toArray X₁ hg hsize hdg hW (X₁.named hnamed) (hpre vm₁ X₁.warmed) with ⟨v, B, X', hpost, hsteps⟩ | ⟨q, B, X', hpost, hsteps⟩
  · exact Or.inl ⟨v, vm₁, B, X₁.warmed, X', hpost, fun target h => hstep₁ _ fun acts => by rw [doInvoke_state]; exact hsteps.trans h⟩
  · exact Or.inr ⟨q, vm₁, B, X₁.warmed, X', hpost, hstep₁ _ fun acts => by rw [doInvoke_state]; exact hsteps⟩
theorem vx_callS (X : Stand p l e R s m args below meth c T locs cells slots) (hexec : p.tables.exec = Jvm.exec) {own : String} {index : Nat} {y : MethodName} {bytes : ByteArray} {maxL : Nat} {ret : Option FieldType}
    (hown : s.vm.findClass own = some m.cls) (hlink : (Cond.methodLink own index y).before args s = true) (hstat : (Cond.static y).before args s = true) (hinit : (Cond.initialized y.cls).before args s = true)
    (hcode : (Cond.code y bytes maxL ret).before args s = true) (hy : y.cls ≠ "java/lang/invoke/MethodHandle" ∧ y.cls ≠ "java/lang/invoke/VarHandle")
    {W9 : Nat} {Pre : Pt → Array Value → Prop} {Post : Pt → Array Value → Option Value → Pt → Prop} {PostX : Pt → Array Value → Addr → Pt → Prop} (hK : vx_Back l R p e below s args y 3 W9 Pre Post PostX)
    {g : JFrame} (hg : g.method = m) (hsize : g.locals.size = c.maxLocals) {argsL rest : List Value} (hlen : ∀ sig, parseMethodDescriptor y.desc = some sig → argsL.length = sig.parameters.length)
    (hstack : g.stack = argsL.reverse ++ rest) (hW : 2 * g.monitorRoom + (rest.map fun v => v.category).sum ≤ W9) (hdg : decode c.code g.pc = .ok (.invokestatic index, 3))
    (hpre : ∀ vm₁, s.WarmedH vm₁ → Pre ⟨T.setVm vm₁, locs, cells, slots⟩ argsL.toArray) :
    (∃ (v : Option Value) (vm₁ : Vm) (B : Pt), s.WarmedH vm₁ ∧ Stand p l e R s m args below meth c B.U B.locs B.cells B.slots ∧ Post ⟨T.setVm vm₁, locs, cells, slots⟩ argsL.toArray v B ∧
      ∀ target, Steps p.tables e below (B.U.setTop { g with pc := g.pc + 3, stack := v.toList ++ rest }) target → Steps p.tables e below (T.setTop g) target) ∨
    (∃ (q : Addr) (vm₁ : Vm) (B : Pt), s.WarmedH vm₁ ∧ Stand p l e R s m args below meth c B.U B.locs B.cells B.slots ∧ PostX ⟨T.setVm vm₁, locs, cells, slots⟩ argsL.toArray q B ∧
      Steps p.tables e below (T.setTop g) ((B.U.setTop { g with stack := rest }).pushFrame (.throwing q))) := by
  obtain ⟨mk, hnamed⟩ := Cond.code_named hcode
  obtain ⟨methM, cM, hmethM, -, -, -, -, -, -, hsigM⟩ := Cond.code_spec hnamed hcode
  have hstatic : methM.isStatic = true := Cond.static_spec hnamed hmethM hstat
  obtain ⟨kP, hkP, -⟩ := className_of_methodNamed hnamed
  have hinitP : kP.init = .initialized := Cond.initialized_spec (findClass_of_methodNamed hnamed) hkP hinit
  obtain ⟨vm₁, X₁, hstep₁⟩ := X.invokestatic hexec hown hlink hnamed hmethM hstatic hkP hinitP hy (g := g) hg (argsL := argsL) (rest := rest) (hlen _ hsigM) hstack hdg
  rcases hK m meth c ⟨T.setVm vm₁, locs, cells, slots⟩ { g with stack := rest } (.invokestatic index) mk argsL.toArray X₁ hg hsize hdg hW (X₁.named hnamed) (hpre vm₁ X₁.warmed) with ⟨v, B, X', hpost, hsteps⟩ | ⟨q, B, X', hpost, hsteps⟩
  · exact Or.inl ⟨v, vm₁, B, X₁.warmed, X', hpost, fun target h => hstep₁ _ fun acts => by rw [doInvoke_state]; exact hsteps.trans h⟩
  · exact Or.inr ⟨q, vm₁, B, X₁.warmed, X', hpost, hstep₁ _ fun acts => by rw [doInvoke_state]; exact hsteps⟩
end Calls
theorem vx_cls {s : State} {T : State} {vm₁ : Vm} {E : String} {k : ClassId} (hW : s.WarmedH vm₁) (h : (T.setVm vm₁).vm.findClass E = some k) : s.vm.findClass E = some k := by
  have h1 : vm₁.findClass E = some k := h
  rw [hW.alike.findClass] at h1
  exact h1
/-- the method's frame g, with q thrown over it -/
def vx_W (p : Program) (l : Launch) (e : Env) (R : Room) (s : State) (m : MethodId) (args : Array Value) (below : List Frame) (meth : Method) (c : Code) (H : Heap) (locs : List Loc) (cells slots : Nat) (Q : State → Prop) (g : JFrame) (q : Addr) : Prop :=
  ∀ T : State, T.heap = H → Stand p l e R s m args below meth c T locs cells slots → ∃ t, Steps p.tables e below ((T.setTop g).pushFrame (.throwing q)) t ∧ Q t
def vx_Run (p : Program) (l : Launch) (e : Env) (R : Room) (s : State) (m : MethodId) (args : Array Value) (below : List Frame) (meth : Method) (c : Code) (H : Heap) (locs : List Loc) (cells slots mc ms : Nat) (g : JFrame) (rest : List Value) (Qa : State → Outcome → State → Prop) (XC : String → State → State → Prop) (free : Addr → Prop) : Prop :=
  ∀ T : State, T.heap = H → Stand p l e R s m args below meth c T locs cells slots →
    (∃ (v : Option Value) (st₀ t T' : State) (L : List Loc), st₀.heap = H ∧ Stand p l e R s m args below meth c T' (locs ++ L) (cells + mc) (slots + ms) ∧ (∀ q ∈ L, free q.base) ∧ T'.heap = t.heap ∧ T'.vm = t.vm ∧ Qa st₀ (.returned v) t ∧
      Goes p e below T g T' { g with pc := g.pc + 3, stack := v.toList ++ rest }) ∨
    (∃ (q : Addr) (st₀ t T' : State) (L : List Loc) (E : String) (ce : Cell), st₀.heap = H ∧ Stand p l e R s m args below meth c T' (locs ++ L) (cells + mc) (slots + ms) ∧ (∀ z ∈ L, free z.base) ∧ T'.heap = t.heap ∧ T'.vm = t.vm ∧ XC E st₀ t ∧ t.heap[q]? = some ce ∧ ce.vm = .none ∧ s.vm.findClass E = some ce.cls ∧
      Steps p.tables e below (T.setTop g) ((T'.setTop { g with stack := rest }).pushFrame (.throwing q)))
def vx_X {S : Type} (px : S → Prop) (B : String → S → State → Prop) (A : Nat → Prop) : String → State → State → Prop := fun E st t => ∃ u : S, px u ∧ B E u t ∧ va_F A st t
section Runs
variable {p : Program} {l : Launch} {e : Env} {R : Room} {s : State} {m : MethodId} {args : Array Value} {below : List Frame} {meth : Method} {c : Code} {H : Heap} {locs : List Loc} {cells slots : Nat}
variable {y : MethodName} {bytes cc : ByteArray} {maxL nL mc ms n index : Nat} {ret : Option FieldType} {ws : List Cond} {rm : Room} {Pc : Array Value → State → Prop} {Qc : Array Value → State → Outcome → State → Prop} {XC : String → State → State → Prop} {free : Addr → Prop} {Ts : List Cond} {own C : String} {b : Addr} {As rest : List Value} {g : JFrame}
theorem vx_callBack (cb : CallB R s args own index y bytes maxL ret ws rm mc ms n) (hM : vx_Met l y ws rm Pc Qc XC mc ms free) (hbl : FrameBlind Pc) : vx_Back l R p e below s args y 3 8 (PreOf R mc ms Pc) (PostOf Qc mc ms free) (vx_Post XC mc ms free) := by
  obtain ⟨hrc, hrs, hfr, hlo, hws, hcw, -, hini, -⟩ := cb
  exact vx_back (bytes := bytes) (maxL := maxL) (ret := ret) hM hbl hrc hrs hfr hlo hws hcw (fun a' U hW => word_at hW (Or.inl (by first | rfl | simp [Cond.onTables, Cond.keeps, Cond.steady])) hini)
theorem vx_runV (S : CallFix p m c cc nL s args Ts own) (hM : vx_Met l y ws rm Pc Qc XC mc ms free) (cw : CallW R s args own C index y bytes maxL ret ws rm mc ms n) (hp : PreV s H C b Pc As)
    (hg : g.method = m) (hn : As.length = n) (hsize : g.locals.size = nL) (hstack : g.stack = As.reverse ++ .ref b :: rest) (hW : 2 * g.monitorRoom + (rest.map fun v => v.category).sum ≤ 8) (hdg : decode cc g.pc = .ok (.invokevirtual index, 3)) (hf : cells + mc ≤ R.cells ∧ slots + ms ≤ R.slots) :
    vx_Run p l e R s m args below meth c H locs cells slots mc ms g rest (Qc (Value.ref b :: As).toArray) XC free := by
  have hK : vx_Back l R p e below s args y 3 8 (PreOf R mc ms Pc) (PostOf Qc mc ms free) (vx_Post XC mc ms free) := vx_callBack cw.1 hM hp.1
  obtain ⟨⟨-, -, -, -, -, -, hcode, -, hy, hlen, hl⟩, hin, hse⟩ := cw
  obtain ⟨hx, hb, hml, ho, -⟩ := S
  obtain ⟨-, ⟨cellB, hcB, hoB, hclB⟩, hPc⟩ := hp
  intro T hT X
  rcases vx_callV X hx (C := C) (bytes := bytes) (maxL := maxL) (ret := ret) ho hl hin hse hcode hy hK (by rw [hT]; exact hcB) hoB hclB hg (hsize.trans hml.symm) (argsL := As) (rest := rest) (fun sig h => hn.trans (hlen sig h)) hstack hW (by rw [hb]; exact hdg)
    (fun vm₁ hW₁ => ⟨hf.1, hf.2, hPc (T.setVm vm₁) hT hW₁⟩) with ⟨v, vm₁, ⟨U', l2, c2, s2⟩, hW₁, X', ⟨g', mk, t, L, e1, e2, hq, h1, hL, h2, h3⟩, st⟩ | ⟨q, vm₁, ⟨U', l2, c2, s2⟩, hW₁, X', ⟨g', mk, t, L, E, ce, e1, e2, hq, hce, hcv, hcl, h1, hL, h2, h3⟩, st⟩
  · dsimp only [Pt.U, Pt.locs, Pt.cells, Pt.slots] at X' e1 e2 h1 h2 h3 st
    subst h1; subst h2; subst h3
    exact Or.inl ⟨v, (T.setVm vm₁).calling g' mk (Value.ref b :: As).toArray, t, U', L, hT, X', hL, e1, e2, hq, st⟩
  · dsimp only [Pt.U, Pt.locs, Pt.cells, Pt.slots] at X' e1 e2 h1 h2 h3 st hcl
    subst h1; subst h2; subst h3
    exact Or.inr ⟨q, (T.setVm vm₁).calling g' mk (Value.ref b :: As).toArray, t, U', L, E, ce, hT, X', hL, e1, e2, hq, hce, hcv, vx_cls hW₁ hcl, st⟩
theorem vx_runS (S : CallFix p m c cc nL s args Ts own) (hM : vx_Met l y ws rm Pc Qc XC mc ms free) (cw : CallB R s args own index y bytes maxL ret ws rm mc ms n ∧ (Cond.static y).before args s = true) (hp : PreS s H Pc As)
    (hg : g.method = m) (hn : As.length = n) (hsize : g.locals.size = nL) (hstack : g.stack = As.reverse ++ rest) (hW : 2 * g.monitorRoom + (rest.map fun v => v.category).sum ≤ 8) (hdg : decode cc g.pc = .ok (.invokestatic index, 3)) (hf : cells + mc ≤ R.cells ∧ slots + ms ≤ R.slots) :
    vx_Run p l e R s m args below meth c H locs cells slots mc ms g rest (Qc As.toArray) XC free := by
  have hK : vx_Back l R p e below s args y 3 8 (PreOf R mc ms Pc) (PostOf Qc mc ms free) (vx_Post XC mc ms free) := vx_callBack cw.1 hM hp.1
  obtain ⟨⟨-, -, -, -, -, -, hcode, hini, hy, hlen, hl⟩, hstt⟩ := cw
  obtain ⟨hx, hb, hml, ho, -⟩ := S
  intro T hT X
  rcases vx_callS X hx (bytes := bytes) (maxL := maxL) (ret := ret) ho hl hstt hini hcode hy hK hg (hsize.trans hml.symm) (argsL := As) (rest := rest) (fun sig h => hn.trans (hlen sig h)) hstack hW (by rw [hb]; exact hdg)
    (fun vm₁ hW₁ => ⟨hf.1, hf.2, hp.2 (T.setVm vm₁) hT hW₁⟩) with ⟨v, vm₁, ⟨U', l2, c2, s2⟩, hW₁, X', ⟨g', mk, t, L, e1, e2, hq, h1, hL, h2, h3⟩, st⟩ | ⟨q, vm₁, ⟨U', l2, c2, s2⟩, hW₁, X', ⟨g', mk, t, L, E, ce, e1, e2, hq, hce, hcv, hcl, h1, hL, h2, h3⟩, st⟩
  · dsimp only [Pt.U, Pt.locs, Pt.cells, Pt.slots] at X' e1 e2 h1 h2 h3 st
    subst h1; subst h2; subst h3
    exact Or.inl ⟨v, (T.setVm vm₁).calling g' mk As.toArray, t, U', L, hT, X', hL, e1, e2, hq, st⟩
  · dsimp only [Pt.U, Pt.locs, Pt.cells, Pt.slots] at X' e1 e2 h1 h2 h3 st hcl
    subst h1; subst h2; subst h3
    exact Or.inr ⟨q, (T.setVm vm₁).calling g' mk As.toArray, t, U', L, E, ce, hT, X', hL, e1, e2, hq, hce, hcv, vx_cls hW₁ hcl, st⟩
end Runs
section Rows
variable {p : Program} {l : Launch} {e : Env} {R : Room} {s : State} {m : MethodId} {args : Array Value} {below : List Frame} {meth : Method} {c : Code} {H : Heap} {locs : List Loc} {cells slots : Nat} {Q : State → Prop}
variable {mc ms : Nat} {free : Addr → Prop} {A0 A1 : Nat → Prop} {H0 : Heap} {a : Array Value} {pc : Nat} {ls : Array Slot} {st0 rest : List Value}
theorem vx_keep {st₀ t T' : State} {L : List Loc} (h0 : st₀.heap = H) (e1 : T'.heap = t.heap) (hS : va_S A0 H0 H locs) (hA : ∀ q, q < H.size → A1 q → A0 q) (hf : ∀ q, free q → A0 q) (hL : ∀ q ∈ L, free q.base) (hF : va_F A1 st₀ t) :
    H.size ≤ T'.heap.size ∧ (∀ q : Nat, q < H.size → ¬ A1 q → T'.heap[q]? = H[q]?) ∧ va_S A0 H0 T'.heap (locs ++ L) := by
  obtain ⟨hz, hk⟩ := hF
  rw [h0] at hz hk
  exact ⟨by rw [e1]; exact hz, fun q h1 h2 => by rw [e1]; exact hk q h1 h2,
    ⟨Nat.le_trans hS.1 (by rw [e1]; exact hz), fun q h1 h2 => by rw [e1, hk q (Nat.lt_of_lt_of_le h1 hS.1) (fun z => h2 (hA q (Nat.lt_of_lt_of_le h1 hS.1) z))]; exact hS.2.1 q h1 h2, fun q hq => by
      rcases List.mem_append.mp hq with h | h
      · exact hS.2.2 q h
      · exact hf _ (hL q h)⟩⟩
theorem vx_calli {S SX : Type} {post : Int32 → S → Prop} {px : SX → Prop} {B : S → State → Prop} {BX : String → SX → State → Prop} {AX : Nat → Prop} (hr : vx_Run p l e R s m args below meth c H locs cells slots mc ms (F0 m pc ls st0) rest (va_Qi post B A1 a) (vx_X px BX AX) free) (hS : va_S A0 H0 H locs) (hA : ∀ q, q < H.size → A1 q → A0 q) (hf : ∀ q, free q → A0 q) (hAX : ∀ q, q < H.size → AX q → A0 q)
    (kx : ∀ (E : String) (ce : Cell) (q9 : Addr) (u : SX) (t : State) (H1 : Heap) (locs1 : List Loc), t.heap = H1 → s.vm.Alike t.vm → px u → BX E u t → H.size ≤ H1.size → (∀ q : Nat, q < H.size → ¬ AX q → H1[q]? = H[q]?) → va_S A0 H0 H1 locs1 → H1[q9]? = some ce → ce.vm = .none → s.vm.findClass E = some ce.cls → vx_W p l e R s m args below meth c H1 locs1 (cells + mc) (slots + ms) Q (F0 m pc ls rest) q9)
    (kk : ∀ (r : Int32) (u : S) (t : State) (H1 : Heap) (locs1 : List Loc), t.heap = H1 → s.vm.Alike t.vm → post r u → B u t → H.size ≤ H1.size → (∀ q : Nat, q < H.size → ¬ A1 q → H1[q]? = H[q]?) → va_S A0 H0 H1 locs1 → W p l e R s m args below meth c H1 locs1 (cells + mc) (slots + ms) Q (F0 m (pc + 3) ls (.int r :: rest))) : W p l e R s m args below meth c H locs cells slots Q (F0 m pc ls st0) := by
  intro T hT X
  rcases hr T hT X with ⟨v, st₀, t, T', L, h0, X', hL, e1, e2, ⟨⟨r, u, hv, hp, hb⟩, hF⟩, st⟩ | ⟨q, st₀, t, T', L, E, ce, h0, X', hL, e1, e2, ⟨u, hp, hb, hF⟩, hce, hcv, hcl, st⟩
  · cases hv
    obtain ⟨k1, k2, k3⟩ := vx_keep h0 e1 hS hA hf hL hF
    obtain ⟨t2, a1, b1⟩ := kk r u t T'.heap (locs ++ L) e1.symm (by rw [← e2]; exact X'.warmed.alike) hp hb k1 k2 k3 T' rfl X'
    exact ⟨t2, st t2 a1, b1⟩
  · obtain ⟨k1, k2, k3⟩ := vx_keep h0 e1 hS hAX hf hL hF
    obtain ⟨t2, a1, b1⟩ := kx E ce q u t T'.heap (locs ++ L) e1.symm (by rw [← e2]; exact X'.warmed.alike) hp hb k1 k2 k3 (by rw [e1]; exact hce) hcv hcl T' rfl X'
    exact ⟨t2, st.trans a1, b1⟩
theorem vx_calll {S SX : Type} {post : Int64 → S → Prop} {px : SX → Prop} {B : S → State → Prop} {BX : String → SX → State → Prop} {AX : Nat → Prop} (hr : vx_Run p l e R s m args below meth c H locs cells slots mc ms (F0 m pc ls st0) rest (va_Ql post B A1 a) (vx_X px BX AX) free) (hS : va_S A0 H0 H locs) (hA : ∀ q, q < H.size → A1 q → A0 q) (hf : ∀ q, free q → A0 q) (hAX : ∀ q, q < H.size → AX q → A0 q)
    (kx : ∀ (E : String) (ce : Cell) (q9 : Addr) (u : SX) (t : State) (H1 : Heap) (locs1 : List Loc), t.heap = H1 → s.vm.Alike t.vm → px u → BX E u t → H.size ≤ H1.size → (∀ q : Nat, q < H.size → ¬ AX q → H1[q]? = H[q]?) → va_S A0 H0 H1 locs1 → H1[q9]? = some ce → ce.vm = .none → s.vm.findClass E = some ce.cls → vx_W p l e R s m args below meth c H1 locs1 (cells + mc) (slots + ms) Q (F0 m pc ls rest) q9)
    (kk : ∀ (r : Int64) (u : S) (t : State) (H1 : Heap) (locs1 : List Loc), t.heap = H1 → s.vm.Alike t.vm → post r u → B u t → H.size ≤ H1.size → (∀ q : Nat, q < H.size → ¬ A1 q → H1[q]? = H[q]?) → va_S A0 H0 H1 locs1 → W p l e R s m args below meth c H1 locs1 (cells + mc) (slots + ms) Q (F0 m (pc + 3) ls (.long r :: rest))) : W p l e R s m args below meth c H locs cells slots Q (F0 m pc ls st0) := by
  intro T hT X
  rcases hr T hT X with ⟨v, st₀, t, T', L, h0, X', hL, e1, e2, ⟨⟨r, u, hv, hp, hb⟩, hF⟩, st⟩ | ⟨q, st₀, t, T', L, E, ce, h0, X', hL, e1, e2, ⟨u, hp, hb, hF⟩, hce, hcv, hcl, st⟩
  · cases hv
    obtain ⟨k1, k2, k3⟩ := vx_keep h0 e1 hS hA hf hL hF
    obtain ⟨t2, a1, b1⟩ := kk r u t T'.heap (locs ++ L) e1.symm (by rw [← e2]; exact X'.warmed.alike) hp hb k1 k2 k3 T' rfl X'
    exact ⟨t2, st t2 a1, b1⟩
  · obtain ⟨k1, k2, k3⟩ := vx_keep h0 e1 hS hAX hf hL hF
    obtain ⟨t2, a1, b1⟩ := kx E ce q u t T'.heap (locs ++ L) e1.symm (by rw [← e2]; exact X'.warmed.alike) hp hb k1 k2 k3 (by rw [e1]; exact hce) hcv hcl T' rfl X'
    exact ⟨t2, st.trans a1, b1⟩
theorem vx_callf {S SX : Type} {post : UInt32 → S → Prop} {px : SX → Prop} {B : S → State → Prop} {BX : String → SX → State → Prop} {AX : Nat → Prop} (hr : vx_Run p l e R s m args below meth c H locs cells slots mc ms (F0 m pc ls st0) rest (va_Qf post B A1 a) (vx_X px BX AX) free) (hS : va_S A0 H0 H locs) (hA : ∀ q, q < H.size → A1 q → A0 q) (hf : ∀ q, free q → A0 q) (hAX : ∀ q, q < H.size → AX q → A0 q)
    (kx : ∀ (E : String) (ce : Cell) (q9 : Addr) (u : SX) (t : State) (H1 : Heap) (locs1 : List Loc), t.heap = H1 → s.vm.Alike t.vm → px u → BX E u t → H.size ≤ H1.size → (∀ q : Nat, q < H.size → ¬ AX q → H1[q]? = H[q]?) → va_S A0 H0 H1 locs1 → H1[q9]? = some ce → ce.vm = .none → s.vm.findClass E = some ce.cls → vx_W p l e R s m args below meth c H1 locs1 (cells + mc) (slots + ms) Q (F0 m pc ls rest) q9)
    (kk : ∀ (r : UInt32) (u : S) (t : State) (H1 : Heap) (locs1 : List Loc), t.heap = H1 → s.vm.Alike t.vm → post r u → B u t → H.size ≤ H1.size → (∀ q : Nat, q < H.size → ¬ A1 q → H1[q]? = H[q]?) → va_S A0 H0 H1 locs1 → W p l e R s m args below meth c H1 locs1 (cells + mc) (slots + ms) Q (F0 m (pc + 3) ls (.float r :: rest))) : W p l e R s m args below meth c H locs cells slots Q (F0 m pc ls st0) := by
  intro T hT X
  rcases hr T hT X with ⟨v, st₀, t, T', L, h0, X', hL, e1, e2, ⟨⟨r, u, hv, hp, hb⟩, hF⟩, st⟩ | ⟨q, st₀, t, T', L, E, ce, h0, X', hL, e1, e2, ⟨u, hp, hb, hF⟩, hce, hcv, hcl, st⟩
  · cases hv
    obtain ⟨k1, k2, k3⟩ := vx_keep h0 e1 hS hA hf hL hF
    obtain ⟨t2, a1, b1⟩ := kk r u t T'.heap (locs ++ L) e1.symm (by rw [← e2]; exact X'.warmed.alike) hp hb k1 k2 k3 T' rfl X'
    exact ⟨t2, st t2 a1, b1⟩
  · obtain ⟨k1, k2, k3⟩ := vx_keep h0 e1 hS hAX hf hL hF
    obtain ⟨t2, a1, b1⟩ := kx E ce q u t T'.heap (locs ++ L) e1.symm (by rw [← e2]; exact X'.warmed.alike) hp hb k1 k2 k3 (by rw [e1]; exact hce) hcv hcl T' rfl X'
    exact ⟨t2, st.trans a1, b1⟩
theorem vx_calld {S SX : Type} {post : UInt64 → S → Prop} {px : SX → Prop} {B : S → State → Prop} {BX : String → SX → State → Prop} {AX : Nat → Prop} (hr : vx_Run p l e R s m args below meth c H locs cells slots mc ms (F0 m pc ls st0) rest (va_Qd post B A1 a) (vx_X px BX AX) free) (hS : va_S A0 H0 H locs) (hA : ∀ q, q < H.size → A1 q → A0 q) (hf : ∀ q, free q → A0 q) (hAX : ∀ q, q < H.size → AX q → A0 q)
    (kx : ∀ (E : String) (ce : Cell) (q9 : Addr) (u : SX) (t : State) (H1 : Heap) (locs1 : List Loc), t.heap = H1 → s.vm.Alike t.vm → px u → BX E u t → H.size ≤ H1.size → (∀ q : Nat, q < H.size → ¬ AX q → H1[q]? = H[q]?) → va_S A0 H0 H1 locs1 → H1[q9]? = some ce → ce.vm = .none → s.vm.findClass E = some ce.cls → vx_W p l e R s m args below meth c H1 locs1 (cells + mc) (slots + ms) Q (F0 m pc ls rest) q9)
    (kk : ∀ (r : UInt64) (u : S) (t : State) (H1 : Heap) (locs1 : List Loc), t.heap = H1 → s.vm.Alike t.vm → post r u → B u t → H.size ≤ H1.size → (∀ q : Nat, q < H.size → ¬ A1 q → H1[q]? = H[q]?) → va_S A0 H0 H1 locs1 → W p l e R s m args below meth c H1 locs1 (cells + mc) (slots + ms) Q (F0 m (pc + 3) ls (.double r :: rest))) : W p l e R s m args below meth c H locs cells slots Q (F0 m pc ls st0) := by
  intro T hT X
  rcases hr T hT X with ⟨v, st₀, t, T', L, h0, X', hL, e1, e2, ⟨⟨r, u, hv, hp, hb⟩, hF⟩, st⟩ | ⟨q, st₀, t, T', L, E, ce, h0, X', hL, e1, e2, ⟨u, hp, hb, hF⟩, hce, hcv, hcl, st⟩
  · cases hv
    obtain ⟨k1, k2, k3⟩ := vx_keep h0 e1 hS hA hf hL hF
    obtain ⟨t2, a1, b1⟩ := kk r u t T'.heap (locs ++ L) e1.symm (by rw [← e2]; exact X'.warmed.alike) hp hb k1 k2 k3 T' rfl X'
    exact ⟨t2, st t2 a1, b1⟩
  · obtain ⟨k1, k2, k3⟩ := vx_keep h0 e1 hS hAX hf hL hF
    obtain ⟨t2, a1, b1⟩ := kx E ce q u t T'.heap (locs ++ L) e1.symm (by rw [← e2]; exact X'.warmed.alike) hp hb k1 k2 k3 (by rw [e1]; exact hce) hcv hcl T' rfl X'
    exact ⟨t2, st.trans a1, b1⟩
theorem vx_callv {S SX : Type} {post : S → Prop} {px : SX → Prop} {B : S → State → Prop} {BX : String → SX → State → Prop} {AX : Nat → Prop} (hr : vx_Run p l e R s m args below meth c H locs cells slots mc ms (F0 m pc ls st0) rest (va_Qv post B A1 a) (vx_X px BX AX) free) (hS : va_S A0 H0 H locs) (hA : ∀ q, q < H.size → A1 q → A0 q) (hf : ∀ q, free q → A0 q) (hAX : ∀ q, q < H.size → AX q → A0 q)
    (kx : ∀ (E : String) (ce : Cell) (q9 : Addr) (u : SX) (t : State) (H1 : Heap) (locs1 : List Loc), t.heap = H1 → s.vm.Alike t.vm → px u → BX E u t → H.size ≤ H1.size → (∀ q : Nat, q < H.size → ¬ AX q → H1[q]? = H[q]?) → va_S A0 H0 H1 locs1 → H1[q9]? = some ce → ce.vm = .none → s.vm.findClass E = some ce.cls → vx_W p l e R s m args below meth c H1 locs1 (cells + mc) (slots + ms) Q (F0 m pc ls rest) q9)
    (kk : ∀ (u : S) (t : State) (H1 : Heap) (locs1 : List Loc), t.heap = H1 → s.vm.Alike t.vm → post u → B u t → H.size ≤ H1.size → (∀ q : Nat, q < H.size → ¬ A1 q → H1[q]? = H[q]?) → va_S A0 H0 H1 locs1 → W p l e R s m args below meth c H1 locs1 (cells + mc) (slots + ms) Q (F0 m (pc + 3) ls (rest))) : W p l e R s m args below meth c H locs cells slots Q (F0 m pc ls st0) := by
  intro T hT X
  rcases hr T hT X with ⟨v, st₀, t, T', L, h0, X', hL, e1, e2, ⟨⟨u, hv, hp, hb⟩, hF⟩, st⟩ | ⟨q, st₀, t, T', L, E, ce, h0, X', hL, e1, e2, ⟨u, hp, hb, hF⟩, hce, hcv, hcl, st⟩
  · cases hv
    obtain ⟨k1, k2, k3⟩ := vx_keep h0 e1 hS hA hf hL hF
    obtain ⟨t2, a1, b1⟩ := kk u t T'.heap (locs ++ L) e1.symm (by rw [← e2]; exact X'.warmed.alike) hp hb k1 k2 k3 T' rfl X'
    exact ⟨t2, st t2 a1, b1⟩
  · obtain ⟨k1, k2, k3⟩ := vx_keep h0 e1 hS hAX hf hL hF
    obtain ⟨t2, a1, b1⟩ := kx E ce q u t T'.heap (locs ++ L) e1.symm (by rw [← e2]; exact X'.warmed.alike) hp hb k1 k2 k3 (by rw [e1]; exact hce) hcv hcl T' rfl X'
    exact ⟨t2, st.trans a1, b1⟩
/-- caught by the row x of this method's table; the rows ahead don't take it -/
theorem vx_catch {own name : String} {E : String} {ce : Cell} {q : Addr} (hown : s.vm.findClass own = some m.cls) (pre : List ExceptionTableEntry) (x : ExceptionTableEntry) (suf : List ExceptionTableEntry) (hsplit : c.exceptionTable.toList = pre ++ x :: suf)
    (hpass : ∀ z ∈ pre, covers z pc = false ∨ (z.catchType ≠ 0 ∧ ∃ nm : String, (Cond.classLink own z.catchType nm).before args s = true ∧ va_Nc E nm s)) (hx : covers x pc = true) (h0 : x.catchType ≠ 0)
    (hlink : (Cond.classLink own x.catchType name).before args s = true) (hcast : (Cond.castable E name).before args s = true) (hcell : H[q]? = some ce) (hv : ce.vm = .none) (hcl : s.vm.findClass E = some ce.cls)
    (kk : W p l e R s m args below meth c H locs cells slots Q (F0 m x.handlerPc ls [.ref q])) : vx_W p l e R s m args below meth c H locs cells slots Q (F0 m pc ls rest) q := by
  intro T hT X
  have hpl : e.platform.magicAccessors = ({} : Platform).magicAccessors := by rw [X.admits.platform]
  obtain ⟨c3, c4, hc3, hc4, hasg⟩ := Cond.castable_spec hcast
  cases Option.some.inj (hc3.symm.trans hcl)
  obtain ⟨c5, hc5, hcl5⟩ := Cond.classLink_spec hown hlink e.platform hpl
  cases Option.some.inj (hc4.symm.trans hc5)
  obtain ⟨vm', X', st⟩ := X.thenCaughtThrough q (g := F0 m pc ls rest) rfl (Steps.refl _) (by rw [hT]; exact hcell) (by rw [hv]; rfl) (by obtain ⟨k9, h9, -⟩ := Vm.findClass_spec hcl; exact ⟨k9, h9⟩) pre x suf hsplit
    (fun z hz => by
      rcases hpass z hz with h | ⟨hz0, nm, hl1, hn1⟩
      · exact Or.inl h
      · obtain ⟨c6, hc6, hcl6⟩ := Cond.classLink_spec hown hl1 e.platform hpl
        obtain ⟨a8, b8, h1, h2, h3⟩ := hn1
        cases Option.some.inj (h1.symm.trans hcl)
        cases Option.some.inj (h2.symm.trans hc6)
        exact Or.inr ⟨hz0, _, hcl6, h3⟩) hx (Or.inr ⟨h0, c4, hcl5, hasg⟩)
  obtain ⟨t, a1, b1⟩ := kk (T.setVm vm') hT X'
  exact ⟨t, st.trans a1, b1⟩
end Rows
section Ends
variable {p : Program} {l : Launch} {e : Env} {R : Room} {s : State} {m : MethodId} {args : Array Value} {below : List Frame} {meth : Method} {c : Code} {H : Heap} {locs : List Loc} {cells slots : Nat} {Q : State → Prop}
variable {mc ms : Nat} {free : Addr → Prop} {A0 A1 : Nat → Prop} {H0 : Heap} {a : Array Value} {ls : Array Slot} {st0 rest : List Value}
variable {Qc : Array Value → State → Outcome → State → Prop} {XC : String → State → State → Prop}
/-- what a body that may throw owes at its end -/
def vx_MQ (below : List Frame) (Qc : Array Value → State → Outcome → State → Prop) (XC : String → State → State → Prop) (a : Array Value) (s : State) (mc ms : Nat) (free : Addr → Prop) : State → Prop := fun t =>
  ∃ o, t.status = .running ∧ Ended t below o ∧ vx_Q Qc XC mc ms free a s o t
theorem vx_ret {g : JFrame} {mc ms : Nat} (k : W p l e R s m args below meth c H locs cells slots (MQ below Qc args s mc ms free) g) : W p l e R s m args below meth c H locs cells slots (vx_MQ below Qc XC args s mc ms free) g := by
  intro T hT X
  obtain ⟨t, a1, o, b1, b2, b3, b4⟩ := k T hT X
  exact ⟨t, a1, o, b1, b2, Or.inl ⟨b3, b4⟩⟩
/-- not caught here: it goes on to the caller -/
theorem vx_widen {g : JFrame} {q : Addr} {k n : Nat} (h1 : cells ≤ k) (h2 : slots ≤ n) (kk : vx_W p l e R s m args below meth c H locs k n Q g q) : vx_W p l e R s m args below meth c H locs cells slots Q g q := fun T hT X => kk T hT (stand_widen X h1 h2)
theorem vx_out {pc : Nat} {E : String} {ce : Cell} {q : Addr} {mc ms : Nat} (hout : ∀ x ∈ c.exceptionTable.toList, covers x pc = false) (hlocks : meth.locks = false) (hcell : H[q]? = some ce) (hv : ce.vm = .none) (hcl : s.vm.findClass E = some ce.cls)
    (hx : ∀ t : State, t.heap = H → s.vm.Alike t.vm → XC E s t) (hf : ∀ z ∈ locs, free z.base) (hc : cells ≤ mc) (hs : slots ≤ ms) :
    vx_W p l e R s m args below meth c H locs cells slots (vx_MQ below Qc XC args s mc ms free) (F0 m pc ls rest) q := by
  intro T hT X
  obtain ⟨st1, hrun, hend, hW, hsm⟩ := X.leaveThrown q (g := F0 m pc ls rest) rfl rfl rfl hout hlocks
  have hcell9 : (T.setFrames (.throwing q :: below)).heap[q]? = some ce := by
    show T.heap[q]? = some ce
    rw [hT]; exact hcell
  exact ⟨_, st1, .threw q, hrun, hend, Or.inr ⟨q, rfl, E, ce, locs, hx _ hT hW.alike, hcell9, hv, hcl, hW, hsm.mono hc hs, hf⟩⟩
theorem vx_frame {U : State} {k n : Nat} (h : s.sameButNew ({ U with vm := s.vm } : State) locs k n) : s.heap.size ≤ U.heap.size ∧ ∀ q : Nat, q < s.heap.size → (∀ z ∈ locs, z.base ≠ q) → U.heap[q]? = s.heap[q]? := by
  obtain ⟨-, h2, -, -, -, h6⟩ := h
  refine ⟨h2, fun q hq hz => ?_⟩
  obtain ⟨c9, e1, e2, e3, e4⟩ := h6 q _ (Array.getElem?_eq_getElem hq)
  have hs : c9.slots = (s.heap[q]).slots := Array.ext_getElem? fun i => e4 i fun hm => hz _ hm rfl
  have h9 : c9 = s.heap[q] := by
    rw [hs] at e2
    exact e2
  have e5 : U.heap[q]? = some c9 := e1
  rw [e5, h9, Array.getElem?_eq_getElem hq]
/-- the words of a throw but the four that speak of the heap -/
def vx_no (w : Cond) : Bool := decide (w ≠ .isRef (.static Bundle.tN "UNASSIGNED_STACK" Bundle.steD)) && decide (w ≠ .isRef (.static Bundle.tN "SUPPRESSED_SENTINEL" Bundle.listD)) && decide (w ≠ .laysStatic Bundle.tN "UNASSIGNED_STACK" Bundle.steD) && decide (w ≠ .laysStatic Bundle.tN "SUPPRESSED_SENTINEL" Bundle.listD)
def vx_at0 (own : String) (ic : Nat) (X : String) (names : List String) : List Cond := (Bundle.ownAtoms0 own ic X names).filter vx_no
def vx_atS (own : String) (ic : Nat) (X : String) (names : List String) : List Cond := (Bundle.ownAtoms own ic X names).filter vx_no
/-- a word that the tables alone decide, or a good one -/
def vx_ot (w : Cond) : Bool := w.onTables || goodWord w
theorem vx_ot_at {args a' : Array Value} {s U : State} {w : Cond} (hW : s.WarmedH U.vm) (hvm : s.vm = U.vm) (hg : vx_ot w = true) (h : w.before args s = true) : w.before a' U = true := by
  simp only [vx_ot, Bool.or_eq_true] at hg
  rcases hg with hg | hg
  · exact va_tabs hg hvm h
  · exact word_at hW (good_of_word hg) h
/-- a list's words: the good ones out of the method's own list, the others by premises of their own -/
theorem vx_hat {args : Array Value} {s : State} {L B : List Cond} (h1 : ∀ w ∈ L.filter goodWord, w.before args s = true) (h2 : ∀ w ∈ L.filter (fun w => !goodWord w), w ∈ B) (h3 : ∀ w ∈ B, w.before args s = true) : ∀ w ∈ L, w.before args s = true := by
  intro w hw
  by_cases g : goodWord w = true
  · exact h1 w (List.mem_filter.mpr ⟨hw, g⟩)
  · refine h3 w (h2 w (List.mem_filter.mpr ⟨hw, ?_⟩))
    show (!goodWord w) = true
    cases hgw : goodWord w
    · rfl
    · exact absurd hgw g
theorem vx_c {args : Array Value} {s : State} {w : Cond} {B : List Cond} (h : w.before args s = true) (t : ∀ w ∈ B, w.before args s = true) : ∀ w' ∈ w :: B, w'.before args s = true := fun w' h' => (List.mem_cons.mp h').elim (fun e => by rw [e]; exact h) (t w')
theorem vx_n {args : Array Value} {s : State} : ∀ w ∈ ([] : List Cond), w.before args s = true := fun _ h => nomatch h
theorem vx_own {args : Array Value} {s : State} {L : List Cond} (h1 : ∀ w ∈ L.filter vx_no, w.before args s = true)
    (hU : (Cond.isRef (.static Bundle.tN "UNASSIGNED_STACK" Bundle.steD)).before args s = true) (hN : (Cond.isRef (.static Bundle.tN "SUPPRESSED_SENTINEL" Bundle.listD)).before args s = true)
    (lU : (Cond.laysStatic Bundle.tN "UNASSIGNED_STACK" Bundle.steD).before args s = true) (lN : (Cond.laysStatic Bundle.tN "SUPPRESSED_SENTINEL" Bundle.listD).before args s = true) : ∀ w ∈ L, w.before args s = true := by
  intro w hw
  by_cases e1 : w = .isRef (.static Bundle.tN "UNASSIGNED_STACK" Bundle.steD)
  · rw [e1]; exact hU
  · by_cases e2 : w = .isRef (.static Bundle.tN "SUPPRESSED_SENTINEL" Bundle.listD)
    · rw [e2]; exact hN
    · by_cases e3 : w = .laysStatic Bundle.tN "UNASSIGNED_STACK" Bundle.steD
      · rw [e3]; exact lU
      · by_cases e4 : w = .laysStatic Bundle.tN "SUPPRESSED_SENTINEL" Bundle.listD
        · rw [e4]; exact lN
        · exact h1 w (List.mem_filter.mpr ⟨hw, by unfold vx_no; rw [decide_eq_true e1, decide_eq_true e2, decide_eq_true e3, decide_eq_true e4]; rfl⟩)
/-- where a static field lies, its class's statics cell in H -/
def vx_L (C n d : String) (A : Nat → Prop) (U : State) (H : Heap) : Prop := ∃ (c : ClassId) (k : Class) (i : Nat) (f : Field) (a : Nat) (cell : Cell), U.vm.findClass C = some c ∧ U.fieldFound? C n d = some (c, k, i, f) ∧ f.isStatic = true ∧ k.statics = some a ∧ H[a]? = some cell ∧ cell.vm.isStatics = true ∧ cell.cls = c ∧ f.slot < cell.slots.size ∧ k.staticTypes[f.slot]? = some f.type ∧ ¬ A a
theorem vx_L.moved {C n d : String} {A : Nat → Prop} {u U : State} {H : Heap} (hvm : u.vm.Alike U.vm) (h : vx_L C n d A u H) : vx_L C n d A U H := by
  obtain ⟨c, k, i, f, a, cell, h1, h2, h3, h4, h5, h6, h7, h8, h9, h10⟩ := h
  obtain ⟨k', hi', he⟩ := State.fieldFound?_setVm hvm h2
  exact ⟨c, k', i, f, a, cell, by rw [hvm.findClass]; exact h1, hi', h3, by rw [he]; exact h4, h5, h6, h7, h8, by rw [he]; exact h9, h10⟩
theorem vx_L.kept {C n d : String} {A : Nat → Prop} {U : State} {H H1 : Heap} (h : vx_L C n d A U H) (hq : ∀ a : Nat, a < H.size → ¬ A a → H1[a]? = H[a]?) : vx_L C n d A U H1 := by
  obtain ⟨c, k, i, f, a, cell, h1, h2, h3, h4, h5, h6, h7, h8, h9, h10⟩ := h
  exact ⟨c, k, i, f, a, cell, h1, h2, h3, h4, by rw [hq a (Array.getElem?_eq_some_iff.mp h5).1 h10]; exact h5, h6, h7, h8, h9, h10⟩
theorem vx_L.narrow {C n d : String} {A B : Nat → Prop} {U : State} {H : Heap} (h : vx_L C n d A U H) (hAB : ∀ q, B q → A q) : vx_L C n d B U H := by
  obtain ⟨c, k, i, f, a, cell, h1, h2, h3, h4, h5, h6, h7, h8, h9, h10⟩ := h
  exact ⟨c, k, i, f, a, cell, h1, h2, h3, h4, h5, h6, h7, h8, h9, fun z => h10 (hAB _ z)⟩
theorem vx_L.word {C n d : String} {A : Nat → Prop} {s : State} {args : Array Value} (h : vx_L C n d A s s.heap) : (Cond.laysStatic C n d).before args s = true := by
  obtain ⟨c, k, i, f, a, cell, h1, h2, h3, h4, h5, h6, h7, h8, h9, -⟩ := h
  show (Cond.laysStatic C n d).holds args s none s [] = true
  exact Cond.laysStatic_of h1 h2 h3 h4 h5 h6 h7 h8 h9
/-- .. and what it holds: null or some reference -/
def vx_Zq (C n d : String) (A : Nat → Prop) (U : State) (H : Heap) : Prop := va_Zq C n d A U H ∧ vx_L C n d A U H
theorem vx_Zq.moved {C n d : String} {A : Nat → Prop} {u U : State} {H : Heap} (hvm : u.vm.Alike U.vm) (h : vx_Zq C n d A u H) : vx_Zq C n d A U H := ⟨va_Zq.moved hvm h.1, vx_L.moved hvm h.2⟩
theorem vx_Zq.kept {C n d : String} {A : Nat → Prop} {U : State} {H H1 : Heap} (h : vx_Zq C n d A U H) (hq : ∀ a : Nat, a < H.size → ¬ A a → H1[a]? = H[a]?) : vx_Zq C n d A U H1 := ⟨va_Zq.kept h.1 hq, vx_L.kept h.2 hq⟩
theorem vx_Zq.narrow {C n d : String} {A B : Nat → Prop} {U : State} {H : Heap} (h : vx_Zq C n d A U H) (hAB : ∀ q, B q → A q) : vx_Zq C n d B U H := ⟨va_Zq.narrow h.1 hAB, vx_L.narrow h.2 hAB⟩
theorem vx_Zqof {args : Array Value} {s : State} {C n d : String} {A : Nat → Prop} (hl : (Cond.laysStatic C n d).before args s = true) (hini : (Cond.initialized C).before args s = true) (h : (Cond.isRef (.static C n d)).before args s = true) (hA : ∀ a : Nat, a < s.heap.size → ¬ A a) : vx_Zq C n d A s s.heap := by
  refine ⟨va_Zqof hl hini h hA, ?_⟩
  obtain ⟨c, k, i, f, a, cell, h1, h2, h3, h4, h5, h6, h7, h8, h9⟩ := Cond.laysStatic_spec hl
  exact ⟨c, k, i, f, a, cell, h1, h2, h3, h4, h5, h6, h7, h8, h9, hA a (Array.getElem?_eq_some_iff.mp h5).1⟩
theorem vx_isRef {C n d : String} {v : Value} {A : Nat → Prop} {s : State} {args : Array Value} (h : va_Z C n d v A s s.heap) (hv : v.isRef = true) : (Cond.isRef (.static C n d)).before args s = true := by
  obtain ⟨cf, kf, fi, f, a, cell, h1, h2, h3, h4, h5, h6, h7, -⟩ := h
  have he : (Term.static C n d).eval args s none [] s = some v := by
    simp [Term.eval, State.fieldNamed?, h1, h2, h4, h5, h6, h7]
  simp only [Cond.before, Cond.holds, Cond.value, he]
  cases v <;> simp_all [Value.isRef]
theorem vx_isRefq {C n d : String} {A : Nat → Prop} {s : State} {args : Array Value} (h : va_Zq C n d A s s.heap) : (Cond.isRef (.static C n d)).before args s = true := by
  rcases h with h | ⟨t, h⟩
  · exact vx_isRef h rfl
  · exact vx_isRef h rfl
/-- the same frame, seen from here: as if the method were called anew in this heap -/
theorem vx_rebase {T : State} (X : Stand p l e R s m args below meth c T locs cells slots) {R' : Room} (hf : R'.frames ≤ R.frames) (hl : R'.locals ≤ R.locals) (hc : cells + R'.cells ≤ R.cells) (hs : slots + R'.slots ≤ R.slots) :
    Stand p l e R' ((T.setVm s.vm).setFrames (.invoking m args :: below)) m args below meth c T [] 0 0 := by
  have htop : (T.setVm s.vm).topJava?.isSome := X.here.top
  have hF : ((T.setVm s.vm).setFrames (.invoking m args :: below)).frames = .invoking m args :: below := State.frames_setFrames _ (State.cur_lt_of_top htop)
  obtain ⟨g₀, hg0⟩ := Option.isSome_iff_exists.mp htop
  obtain ⟨r, hr⟩ := State.topJava?_eq_some.mp hg0
  have hl9 : e.platform.stackLimits (T.setVm s.vm).me = e.platform.stackLimits s.me := X.limits
  have hb9 : (T.setVm s.vm).me.stackBytes = s.me.stackBytes := X.bytes
  refine ⟨X.admits, X.cas, X.clock, hF, ?_, X.hears, X.method, X.code, X.here, X.tail, X.warmed, ?_, ?_, ?_⟩
  · have h := X.room
    have hU : ((T.setVm s.vm).setFrames (.invoking m args :: below)).localsInUse = s.localsInUse := by
      rw [State.localsInUse_invoking hF (meth := meth) (c := c) X.method X.code, State.localsInUse_invoking X.frames X.method X.code]
    simp only [State.hasRoom, Bool.and_eq_true, decide_eq_true_eq] at h ⊢
    obtain ⟨⟨⟨⟨h1, h2, h3, h4, h5, h6⟩, h7⟩, h8⟩, h9⟩ := h
    rw [X.frames, List.length_cons] at h2 h3
    have q1 := X.heapSize
    have q2 := X.used
    simp only [hF, hU, List.length_cons, State.stackLimits_setFrames, State.stackBytes_setFrames, hl9, hb9]
    refine ⟨⟨⟨⟨by omega, by omega, by omega, by omega, by omega, h6⟩, ?_⟩, ?_⟩, X.book⟩
    · show T.heap.size + R'.cells ≤ e.platform.maxCells
      omega
    · show T.slotsUsed + R'.slots ≤ e.platform.maxSlots
      omega
  · rw [State.stackLimits_setFrames]; rfl
  · rw [State.stackBytes_setFrames]; rfl
  · refine ⟨?_, Nat.le_refl _, Nat.le_refl _, ?_, ?_, fun a c9 h9 => ⟨c9, h9, rfl, rfl, fun _ _ => rfl⟩⟩
    · obtain ⟨t, ht, -⟩ := State.frames_cons hr
      show T.setVm s.vm = { ((T.setVm s.vm).setFrames (.invoking m args :: below)).setFrames (T.setVm s.vm).frames with heap := T.heap, slotsUsed := T.slotsUsed }
      rw [State.setFrames_setFrames, State.setFrames_self ht]
      rfl
    · show T.slotsUsed = T.slotsUsed + ((T.heap.toList.drop T.heap.size).map (·.slots.size)).sum
      rw [List.drop_eq_nil_of_le (Nat.le_of_eq Array.length_toList)]
      rfl
    · show ((T.heap.toList.drop T.heap.size).map (·.slots.size)).sum ≤ 0
      rw [List.drop_eq_nil_of_le (Nat.le_of_eq Array.length_toList)]
      exact Nat.le_refl _
/-- 'throw new E()': new; dup; invokespecial; athrow -/
theorem vx_throw0 {cc : ByteArray} {pc : Nat} (hexec : p.tables.exec = Jvm.exec) (hb : c.code = cc) (hl : l.stackTraces = false) {own cls : String} {names : List String} {ik ic mc ms : Nat} {A : Nat → Prop}
    (hown : s.vm.findClass own = some m.cls) (hcls : Bundle.fit cls = true) (hnames : ∀ n ∈ names, Bundle.fit n = true)
    (hk : (Cond.classLink own ik cls).before args s = true) (hini : (Cond.initialized cls).before args s = true) (hat : ∀ w ∈ vx_at0 own ic cls names, w.before args s = true)
    (hgood : ∀ w ∈ Cond.classLink own ik cls :: Cond.initialized cls :: vx_at0 own ic cls names, vx_ot w = true)
    (hU : vx_Zq Bundle.tN "UNASSIGNED_STACK" Bundle.steD A s s.heap) (hN : vx_Zq Bundle.tN "SUPPRESSED_SENTINEL" Bundle.listD A s s.heap) (hS : va_S A s.heap H locs) (hsize : ls.size = c.maxLocals)
    (d0 : decode cc pc = .ok (.new ik, 3)) (d3 : decode cc (pc + 3) = .ok (.dup, 1)) (d4 : decode cc (pc + 4) = .ok (.invokespecial ic, 3)) (d7 : decode cc (pc + 7) = .ok (.athrow, 1))
    (hout : ∀ x ∈ c.exceptionTable.toList, covers x (pc + 7) = false)
    (hRframes : names.length + 3 < R.frames) (hRlocals : (rest.map fun v => v.category).sum + (13 * (names.length + 1) + 42) ≤ R.locals) (hRcells : cells + 1 ≤ R.cells) (hRslots : slots + 6 ≤ R.slots) (hlocks : meth.locks = false)
    (hx : ∀ t : State, s.vm.Alike t.vm → H.size ≤ t.heap.size → (∀ q : Nat, q < H.size → t.heap[q]? = H[q]?) → XC cls s t)
    (hf : ∀ z ∈ locs, free z.base) (hc : cells + 1 ≤ mc) (hs : slots + 6 ≤ ms) :
    W p l e R s m args below meth c H locs cells slots (vx_MQ below Qc XC args s mc ms free) (F0 m pc ls rest) := by
  intro T hT X
  have htr : e.platform.stackTraces = false := (show e.platform.stackTraces = l.stackTraces by rw [X.admits.platform]).trans hl
  have Y := vx_rebase X (R' := { frames := R.frames, locals := R.locals, cells := 1, slots := 6 }) (Nat.le_refl _) (Nat.le_refl _) hRcells hRslots
  obtain ⟨s', hA⟩ : ∃ z, z = (T.setVm s.vm).setFrames (.invoking m args :: below) := ⟨_, rfl⟩
  rw [← hA] at Y
  have hvm : s'.vm = s.vm := by rw [hA]; rfl
  have hhp : s'.heap = H := by rw [hA]; exact hT
  have hW0 : s.WarmedH s'.vm := by rw [hvm]; exact State.WarmedH.refl s
  have hat' : ∀ w ∈ vx_at0 own ic cls names, w.before args s' = true := fun w hw => vx_ot_at hW0 hvm.symm (hgood w (List.mem_cons_of_mem _ (List.mem_cons_of_mem _ hw))) (hat w hw)
  have hk' : (Cond.classLink own ik cls).before args s' = true := vx_ot_at hW0 hvm.symm (hgood _ List.mem_cons_self) hk
  have hini' : (Cond.initialized cls).before args s' = true := vx_ot_at hW0 hvm.symm (hgood _ (List.mem_cons_of_mem _ List.mem_cons_self)) hini
  have hU' : vx_Zq Bundle.tN "UNASSIGNED_STACK" Bundle.steD A s' s'.heap := by rw [hhp]; exact vx_Zq.moved hW0.alike (hU.kept hS.2.1)
  have hN' : vx_Zq Bundle.tN "SUPPRESSED_SENTINEL" Bundle.listD A s' s'.heap := by rw [hhp]; exact vx_Zq.moved hW0.alike (hN.kept hS.2.1)
  have h : ∀ w ∈ Bundle.ownAtoms0 own ic cls names, w.before args s' = true := vx_own hat' (vx_isRefq hU'.1) (vx_isRefq hN'.1) hU'.2.word hN'.2.word
  have hown' : s'.vm.findClass own = some m.cls := by rw [hvm]; exact hown
  have hins : (Cond.instantiable cls 6).before args s' = true := h _ (by simp [Bundle.ownAtoms0])
  obtain ⟨vm₁, cX, kX, hfX, hkX, -, -, X₁, st1⟩ := Y.newCold hexec (own := own) (C := cls) (index := ik) (n := 6) hown' hk' hins hini'
    (g := F0 m pc ls rest) rfl (by rw [hb]; exact d0) (Nat.le_refl _) (Nat.le_refl _)
  generalize hT1 : (T.setVm vm₁).pushCell { cls := cX, slots := kX.instanceTypes.map defaultValue, vm := .none } = T1 at X₁ st1
  have hcat : (Value.ref T.heap.size).category = 1 := rfl
  have hcellA : T1.heap[T.heap.size]? = some (freshCell cX kX) := by rw [← hT1]; exact State.heap_pushCell_size _ _
  have d3' : decode c.code (pc + 3) = .ok (.dup, 1) := by rw [hb]; exact d3
  obtain ⟨U, hsteps, hrun, hend, hW, hsame, ce, hce, hO⟩ := X₁.ctorThrow0 hexec htr (own := own) (cls := cls) (names := names) (ic := ic) hown' hcls hnames h (fun x hx => nomatch hx) hfX hkX hcellA (by rw [hhp, hT]; exact Nat.le_refl _)
    (g := { method := m, pc := pc + 4, locals := ls, stack := .ref T.heap.size :: .ref T.heap.size :: rest, locked := none }) rfl hsize rfl rfl (rest := rest) rfl
    (by rw [hb]; exact d4) (by rw [hb]; exact d7) hout hRframes (by simp only [List.map_cons, List.sum_cons, hcat]; omega) hlocks
  obtain ⟨f1, f2⟩ := vx_frame hsame
  rw [hhp] at f1 f2
  have hWs : s.WarmedH U.vm := State.WarmedH.trans hW0 hW
  have hcl : s.vm.findClass cls = some ce.cls := by
    have h9 := hO.cls
    rw [hvm] at h9
    exact h9
  have hall : s.sameButNew ({ U with vm := s.vm } : State) locs mc ms := by
    subst hA
    obtain ⟨e1, e2⟩ := hsame
    rw [State.setFrames_setFrames] at e1
    have h2 : (T.setVm s.vm).sameButNew ({ U with vm := s.vm } : State) [] (0 + 1) (0 + 6) := ⟨e1, e2⟩
    have h3 := X.same.trans h2
    rw [List.append_nil] at h3
    exact h3.mono hc hs
  refine ⟨U, ?_, .threw T.heap.size, hrun, hend, Or.inr ⟨T.heap.size, rfl, cls, ce, locs, hx U hWs.alike f1 (fun q hq => f2 q hq (fun z hz => nomatch hz)), hce, hO.vm, hcl, hWs, hall, hf⟩⟩
  refine st1 _ ?_
  show Steps p.tables e below (T1.setTop { method := m, pc := pc + 3, locals := ls, stack := .ref T.heap.size :: rest, locked := none }) _
  jvm_step X₁.here [X₁.here.top, hexec, d3', Value.category]
  exact hsteps
/-- 'throw new E("text")': new; dup; ldc; invokespecial; athrow -/
theorem vx_throwS {cc : ByteArray} {pc : Nat} (hexec : p.tables.exec = Jvm.exec) (hb : c.code = cc) (hl : l.stackTraces = false) {own cls text : String} {names : List String} {ik is ic mc ms sa : Nat} {A : Nat → Prop}
    (hown : s.vm.findClass own = some m.cls) (hcls : Bundle.fit cls = true) (hnames : ∀ n ∈ names, Bundle.fit n = true)
    (hk : (Cond.classLink own ik cls).before args s = true) (hini : (Cond.initialized cls).before args s = true) (hstr : vk_R own is text sa s) (hat : ∀ w ∈ vx_atS own ic cls names, w.before args s = true)
    (hgood : ∀ w ∈ Cond.classLink own ik cls :: Cond.initialized cls :: vx_atS own ic cls names, vx_ot w = true)
    (hU : vx_Zq Bundle.tN "UNASSIGNED_STACK" Bundle.steD A s s.heap) (hN : vx_Zq Bundle.tN "SUPPRESSED_SENTINEL" Bundle.listD A s s.heap) (hS : va_S A s.heap H locs) (hsize : ls.size = c.maxLocals)
    (d0 : decode cc pc = .ok (.new ik, 3)) (d3 : decode cc (pc + 3) = .ok (.dup, 1)) (d4 : decode cc (pc + 4) = .ok (.ldc is, 2)) (d6 : decode cc (pc + 6) = .ok (.invokespecial ic, 3)) (d9 : decode cc (pc + 9) = .ok (.athrow, 1))
    (hout : ∀ x ∈ c.exceptionTable.toList, covers x (pc + 9) = false)
    (hRframes : names.length + 3 < R.frames) (hRlocals : (rest.map fun v => v.category).sum + (13 * (names.length + 1) + 43) ≤ R.locals) (hRcells : cells + 1 ≤ R.cells) (hRslots : slots + 6 ≤ R.slots) (hlocks : meth.locks = false)
    (hx : ∀ t : State, s.vm.Alike t.vm → H.size ≤ t.heap.size → (∀ q : Nat, q < H.size → t.heap[q]? = H[q]?) → XC cls s t)
    (hf : ∀ z ∈ locs, free z.base) (hc : cells + 1 ≤ mc) (hs : slots + 6 ≤ ms) :
    W p l e R s m args below meth c H locs cells slots (vx_MQ below Qc XC args s mc ms free) (F0 m pc ls rest) := by
  intro T hT X
  have htr : e.platform.stackTraces = false := (show e.platform.stackTraces = l.stackTraces by rw [X.admits.platform]).trans hl
  have Y := vx_rebase X (R' := { frames := R.frames, locals := R.locals, cells := 1, slots := 6 }) (Nat.le_refl _) (Nat.le_refl _) hRcells hRslots
  obtain ⟨s', hA⟩ : ∃ z, z = (T.setVm s.vm).setFrames (.invoking m args :: below) := ⟨_, rfl⟩
  rw [← hA] at Y
  have hvm : s'.vm = s.vm := by rw [hA]; rfl
  have hhp : s'.heap = H := by rw [hA]; exact hT
  have hW0 : s.WarmedH s'.vm := by rw [hvm]; exact State.WarmedH.refl s
  have hat' : ∀ w ∈ vx_atS own ic cls names, w.before args s' = true := fun w hw => vx_ot_at hW0 hvm.symm (hgood w (List.mem_cons_of_mem _ (List.mem_cons_of_mem _ hw))) (hat w hw)
  have hk' : (Cond.classLink own ik cls).before args s' = true := vx_ot_at hW0 hvm.symm (hgood _ List.mem_cons_self) hk
  have hini' : (Cond.initialized cls).before args s' = true := vx_ot_at hW0 hvm.symm (hgood _ (List.mem_cons_of_mem _ List.mem_cons_self)) hini
  have hU' : vx_Zq Bundle.tN "UNASSIGNED_STACK" Bundle.steD A s' s'.heap := by rw [hhp]; exact vx_Zq.moved hW0.alike (hU.kept hS.2.1)
  have hN' : vx_Zq Bundle.tN "SUPPRESSED_SENTINEL" Bundle.listD A s' s'.heap := by rw [hhp]; exact vx_Zq.moved hW0.alike (hN.kept hS.2.1)
  have h : ∀ w ∈ Bundle.ownAtoms own ic cls names, w.before args s' = true := vx_own hat' (vx_isRefq hU'.1) (vx_isRefq hN'.1) hU'.2.word hN'.2.word
  have hown' : s'.vm.findClass own = some m.cls := by rw [hvm]; exact hown
  have hins : (Cond.instantiable cls 6).before args s' = true := h _ (by simp [Bundle.ownAtoms])
  obtain ⟨vm₁, cX, kX, hfX, hkX, -, -, X₁, st1⟩ := Y.newCold hexec (own := own) (C := cls) (index := ik) (n := 6) hown' hk' hins hini'
    (g := F0 m pc ls rest) rfl (by rw [hb]; exact d0) (Nat.le_refl _) (Nat.le_refl _)
  generalize hT1 : (T.setVm vm₁).pushCell { cls := cX, slots := kX.instanceTypes.map defaultValue, vm := .none } = T1 at X₁ st1
  have hcat : (Value.ref T.heap.size).category = 1 := rfl
  have hcellA : T1.heap[T.heap.size]? = some (freshCell cX kX) := by rw [← hT1]; exact State.heap_pushCell_size _ _
  have d3' : decode c.code (pc + 3) = .ok (.dup, 1) := by rw [hb]; exact d3
  have d4' : decode c.code (pc + 4) = .ok (.ldc is, 2) := by rw [hb]; exact d4
  have hstr' : vk_R own is text sa s' := vk_R.warm hW0 hstr
  obtain ⟨U, hsteps, hrun, hend, hW, hsame, ce, hce, hO⟩ := X₁.ctorThrowS hexec htr (own := own) (cls := cls) (names := names) (ic := ic) hown' hcls hnames h (fun x hx => nomatch hx) hfX hkX hcellA (by rw [hhp, hT]; exact Nat.le_refl _) (msg := .ref sa) rfl
    (g := { method := m, pc := pc + 6, locals := ls, stack := .ref sa :: .ref T.heap.size :: .ref T.heap.size :: rest, locked := none }) rfl hsize rfl rfl (rest := rest) rfl
    (by rw [hb]; exact d6) (by rw [hb]; exact d9) hout hRframes (by simp only [List.map_cons, List.sum_cons, hcat]; omega) hlocks
  obtain ⟨f1, f2⟩ := vx_frame hsame
  rw [hhp] at f1 f2
  have hWs : s.WarmedH U.vm := State.WarmedH.trans hW0 hW
  have hcl : s.vm.findClass cls = some ce.cls := by
    have h9 := hO.cls
    rw [hvm] at h9
    exact h9
  have hall : s.sameButNew ({ U with vm := s.vm } : State) locs mc ms := by
    subst hA
    obtain ⟨e1, e2⟩ := hsame
    rw [State.setFrames_setFrames] at e1
    have h2 : (T.setVm s.vm).sameButNew ({ U with vm := s.vm } : State) [] (0 + 1) (0 + 6) := ⟨e1, e2⟩
    have h3 := X.same.trans h2
    rw [List.append_nil] at h3
    exact h3.mono hc hs
  refine ⟨U, ?_, .threw T.heap.size, hrun, hend, Or.inr ⟨T.heap.size, rfl, cls, ce, locs, hx U hWs.alike f1 (fun q hq => f2 q hq (fun z hz => nomatch hz)), hce, hO.vm, hcl, hWs, hall, hf⟩⟩
  refine st1 _ ?_
  show Steps p.tables e below (T1.setTop { method := m, pc := pc + 3, locals := ls, stack := .ref T.heap.size :: rest, locked := none }) _
  jvm_step X₁.here [X₁.here.top, hexec, d3', Value.category]
  exact X₁.ldcString hexec (own := own) (text := text) (index := is) (a := sa) hown' hstr'.1 hstr'.2
    (g := { method := m, pc := pc + 4, locals := ls, stack := .ref T.heap.size :: .ref T.heap.size :: rest, locked := none }) rfl d4' _ hsteps
/-- 'throw new E("text")', the text by a wide index -/
theorem vx_throwSW {cc : ByteArray} {pc : Nat} (hexec : p.tables.exec = Jvm.exec) (hb : c.code = cc) (hl : l.stackTraces = false) {own cls text : String} {names : List String} {ik is ic mc ms sa : Nat} {A : Nat → Prop}
    (hown : s.vm.findClass own = some m.cls) (hcls : Bundle.fit cls = true) (hnames : ∀ n ∈ names, Bundle.fit n = true)
    (hk : (Cond.classLink own ik cls).before args s = true) (hini : (Cond.initialized cls).before args s = true) (hstr : vk_R own is text sa s) (hat : ∀ w ∈ vx_atS own ic cls names, w.before args s = true)
    (hgood : ∀ w ∈ Cond.classLink own ik cls :: Cond.initialized cls :: vx_atS own ic cls names, vx_ot w = true)
    (hU : vx_Zq Bundle.tN "UNASSIGNED_STACK" Bundle.steD A s s.heap) (hN : vx_Zq Bundle.tN "SUPPRESSED_SENTINEL" Bundle.listD A s s.heap) (hS : va_S A s.heap H locs) (hsize : ls.size = c.maxLocals)
    (d0 : decode cc pc = .ok (.new ik, 3)) (d3 : decode cc (pc + 3) = .ok (.dup, 1)) (d4 : decode cc (pc + 4) = .ok (.ldc_w is, 3)) (d7 : decode cc (pc + 7) = .ok (.invokespecial ic, 3)) (d10 : decode cc (pc + 10) = .ok (.athrow, 1))
    (hout : ∀ x ∈ c.exceptionTable.toList, covers x (pc + 10) = false)
    (hRframes : names.length + 3 < R.frames) (hRlocals : (rest.map fun v => v.category).sum + (13 * (names.length + 1) + 43) ≤ R.locals) (hRcells : cells + 1 ≤ R.cells) (hRslots : slots + 6 ≤ R.slots) (hlocks : meth.locks = false)
    (hx : ∀ t : State, s.vm.Alike t.vm → H.size ≤ t.heap.size → (∀ q : Nat, q < H.size → t.heap[q]? = H[q]?) → XC cls s t)
    (hf : ∀ z ∈ locs, free z.base) (hc : cells + 1 ≤ mc) (hs : slots + 6 ≤ ms) :
    W p l e R s m args below meth c H locs cells slots (vx_MQ below Qc XC args s mc ms free) (F0 m pc ls rest) := by
  intro T hT X
  have htr : e.platform.stackTraces = false := (show e.platform.stackTraces = l.stackTraces by rw [X.admits.platform]).trans hl
  have Y := vx_rebase X (R' := { frames := R.frames, locals := R.locals, cells := 1, slots := 6 }) (Nat.le_refl _) (Nat.le_refl _) hRcells hRslots
  obtain ⟨s', hA⟩ : ∃ z, z = (T.setVm s.vm).setFrames (.invoking m args :: below) := ⟨_, rfl⟩
  rw [← hA] at Y
  have hvm : s'.vm = s.vm := by rw [hA]; rfl
  have hhp : s'.heap = H := by rw [hA]; exact hT
  have hW0 : s.WarmedH s'.vm := by rw [hvm]; exact State.WarmedH.refl s
  have hat' : ∀ w ∈ vx_atS own ic cls names, w.before args s' = true := fun w hw => vx_ot_at hW0 hvm.symm (hgood w (List.mem_cons_of_mem _ (List.mem_cons_of_mem _ hw))) (hat w hw)
  have hk' : (Cond.classLink own ik cls).before args s' = true := vx_ot_at hW0 hvm.symm (hgood _ List.mem_cons_self) hk
  have hini' : (Cond.initialized cls).before args s' = true := vx_ot_at hW0 hvm.symm (hgood _ (List.mem_cons_of_mem _ List.mem_cons_self)) hini
  have hU' : vx_Zq Bundle.tN "UNASSIGNED_STACK" Bundle.steD A s' s'.heap := by rw [hhp]; exact vx_Zq.moved hW0.alike (hU.kept hS.2.1)
  have hN' : vx_Zq Bundle.tN "SUPPRESSED_SENTINEL" Bundle.listD A s' s'.heap := by rw [hhp]; exact vx_Zq.moved hW0.alike (hN.kept hS.2.1)
  have h : ∀ w ∈ Bundle.ownAtoms own ic cls names, w.before args s' = true := vx_own hat' (vx_isRefq hU'.1) (vx_isRefq hN'.1) hU'.2.word hN'.2.word
  have hown' : s'.vm.findClass own = some m.cls := by rw [hvm]; exact hown
  have hins : (Cond.instantiable cls 6).before args s' = true := h _ (by simp [Bundle.ownAtoms])
  obtain ⟨vm₁, cX, kX, hfX, hkX, -, -, X₁, st1⟩ := Y.newCold hexec (own := own) (C := cls) (index := ik) (n := 6) hown' hk' hins hini'
    (g := F0 m pc ls rest) rfl (by rw [hb]; exact d0) (Nat.le_refl _) (Nat.le_refl _)
  generalize hT1 : (T.setVm vm₁).pushCell { cls := cX, slots := kX.instanceTypes.map defaultValue, vm := .none } = T1 at X₁ st1
  have hcat : (Value.ref T.heap.size).category = 1 := rfl
  have hcellA : T1.heap[T.heap.size]? = some (freshCell cX kX) := by rw [← hT1]; exact State.heap_pushCell_size _ _
  have d3' : decode c.code (pc + 3) = .ok (.dup, 1) := by rw [hb]; exact d3
  have d4' : decode c.code (pc + 4) = .ok (.ldc_w is, 3) := by rw [hb]; exact d4
  have hstr' : vk_R own is text sa s' := vk_R.warm hW0 hstr
  obtain ⟨U, hsteps, hrun, hend, hW, hsame, ce, hce, hO⟩ := X₁.ctorThrowS hexec htr (own := own) (cls := cls) (names := names) (ic := ic) hown' hcls hnames h (fun x hx => nomatch hx) hfX hkX hcellA (by rw [hhp, hT]; exact Nat.le_refl _) (msg := .ref sa) rfl
    (g := { method := m, pc := pc + 7, locals := ls, stack := .ref sa :: .ref T.heap.size :: .ref T.heap.size :: rest, locked := none }) rfl hsize rfl rfl (rest := rest) rfl
    (by rw [hb]; exact d7) (by rw [hb]; exact d10) hout hRframes (by simp only [List.map_cons, List.sum_cons, hcat]; omega) hlocks
  obtain ⟨f1, f2⟩ := vx_frame hsame
  rw [hhp] at f1 f2
  have hWs : s.WarmedH U.vm := State.WarmedH.trans hW0 hW
  have hcl : s.vm.findClass cls = some ce.cls := by
    have h9 := hO.cls
    rw [hvm] at h9
    exact h9
  have hall : s.sameButNew ({ U with vm := s.vm } : State) locs mc ms := by
    subst hA
    obtain ⟨e1, e2⟩ := hsame
    rw [State.setFrames_setFrames] at e1
    have h2 : (T.setVm s.vm).sameButNew ({ U with vm := s.vm } : State) [] (0 + 1) (0 + 6) := ⟨e1, e2⟩
    have h3 := X.same.trans h2
    rw [List.append_nil] at h3
    exact h3.mono hc hs
  refine ⟨U, ?_, .threw T.heap.size, hrun, hend, Or.inr ⟨T.heap.size, rfl, cls, ce, locs, hx U hWs.alike f1 (fun q hq => f2 q hq (fun z hz => nomatch hz)), hce, hO.vm, hcl, hWs, hall, hf⟩⟩
  refine st1 _ ?_
  show Steps p.tables e below (T1.setTop { method := m, pc := pc + 3, locals := ls, stack := .ref T.heap.size :: rest, locked := none }) _
  jvm_step X₁.here [X₁.here.top, hexec, d3', Value.category]
  exact X₁.ldcStringW hexec (own := own) (text := text) (index := is) (a := sa) hown' hstr'.1 hstr'.2
    (g := { method := m, pc := pc + 4, locals := ls, stack := .ref T.heap.size :: .ref T.heap.size :: rest, locked := none }) rfl d4' _ hsteps
end Ends
section Bodies
variable {l : Launch}
theorem vx_ofW {y : MethodName} {ws ws' : List Cond} {rm : Room} {Pc : Array Value → State → Prop} {Qc : Array Value → State → Outcome → State → Prop} {XC : String → State → State → Prop} {mc ms : Nat} {free : Addr → Prop} {cc : ByteArray} {maxL : Nat} {ret : Option FieldType}
    (hy : plainName y.cls = true) (hw : ws = Cond.code y cc maxL ret :: ws')
    (body : ∀ p e s m args below meth c s₁, BodyLoose p l y (headSpec ws rm) cc maxL ret e s m args below meth c s₁ → c.maxLocals = maxL → (∀ x ∈ c.exceptionTable.toList, False) → Pc args s →
      W p l e (headSpec ws rm).room s m args below meth c s.heap [] 0 0 (vx_MQ below Qc XC args s mc ms free) (entryFrame m args maxL)) : vx_Met l y ws rm Pc Qc XC mc ms free := by
  refine MetFree.of_bodyS (code := cc) (maxLocals := maxL) (ret := ret) hy ?_ ?_
  · intro args s m h hn
    obtain ⟨meth, c, h1, h2, h3, h4, h5, h6, -, -⟩ := Cond.code_spec hn (atoms_spec (ws := ws) h _ (by rw [hw]; exact List.mem_cons_self))
    exact ⟨meth, c, h1, h2, h3, h4, h5, h6⟩
  · intro p e s m args below meth c s₁ B hml hP _
    have hh0 : s₁.heap = s.heap := by rw [B.state]; rfl
    have ht : ∀ x ∈ c.exceptionTable.toList, False := by
      obtain ⟨meth9, c9, h1, h2, -, -, -, -, h7, -⟩ := Cond.code_spec B.named (atoms_spec (ws := ws) B.pre _ (by rw [hw]; exact List.mem_cons_self))
      cases Option.some.inj (h1.symm.trans B.method)
      cases Option.some.inj (h2.symm.trans (Stand.of_body B).code)
      intro x hx
      rw [Array.isEmpty_iff.mp h7] at hx
      cases hx
    obtain ⟨t, a1, o, b1, b2, b3⟩ := body p e s m args below meth c s₁ B hml ht hP s₁ hh0 (Stand.of_body B)
    exact ⟨t, o, a1, b1, b2, b3⟩
/-- the table of a body with handlers -/
theorem vx_table {p : Program} {x y : MethodName} {S : Spec} {cc bytes : ByteArray} {maxL maxL' : Nat} {ret ret' : Option FieldType} {e : Env} {s s₁ : State} {m : MethodId} {args : Array Value} {below : List Frame} {meth : Method} {c : Code} {hh : List (Nat × Nat × Nat × Nat)}
    (B : BodyLoose p l y S cc maxL ret e s m args below meth c s₁) (h : (Cond.codeWith y bytes maxL' ret' hh).before args s = true) : c.exceptionTable.toList = tableOf hh := by
  obtain ⟨m9, meth9, c9, hn9, h1, h2, -, -, h6, -⟩ := Cond.codeWith_spec h
  cases Option.some.inj (hn9.symm.trans B.named)
  cases Option.some.inj (h1.symm.trans B.method)
  cases Option.some.inj (h2.symm.trans (Stand.of_body B).code)
  rw [← h6, table_eq]
end Bodies
end VXA
/-! ===== END ===== -/
/-! ===== BEGIN a static call of a method with an exception table ===== -/
section VXS
variable {p : Program} {l : Launch} {e : Env} {R : Room} {s : State} {m : MethodId} {args : Array Value} {below : List Frame} {meth : Method} {c : Code} {T : State} {H : Heap} {locs : List Loc} {cells slots : Nat}
abbrev vx_CSW (R : Room) (s : State) (args : Array Value) (own : String) (index : Nat) (y : MethodName) (bytes : ByteArray) (maxL : Nat) (ret : Option FieldType) (hh : List (Nat × Nat × Nat × Nat)) (ws : List Cond) (rm : Room) (mc ms n : Nat) : Prop :=
  (rm.cells = mc ∧ rm.slots = ms ∧ rm.frames + 1 ≤ R.frames ∧ 8 + (maxL + 11) + rm.locals ≤ R.locals ∧ (∀ w ∈ ws, ∀ (a' : Array Value) (U : State), s.WarmedH U.vm → w.before a' U = true) ∧ Cond.codeWith y bytes maxL ret hh ∈ ws) ∧
  (Cond.codeWith y bytes maxL ret hh).before args s = true ∧ (Cond.initialized y.cls).before args s = true ∧ (y.cls ≠ "java/lang/invoke/MethodHandle" ∧ y.cls ≠ "java/lang/invoke/VarHandle") ∧
  (∀ sig, parseMethodDescriptor y.desc = some sig → n = sig.parameters.length) ∧ (Cond.methodLink own index y).before args s = true ∧ (Cond.static y).before args s = true
theorem vx_cwSW {own : String} {index maxL mc ms : Nat} {y : MethodName} {bytes : ByteArray} {ret : Option FieldType} {hh : List (Nat × Nat × Nat × Nat)} {Ts ws ws' : List Cond} {rm : Room} (n : Nat) (ht : ∀ w ∈ Ts, w.before args s = true) (hT : GoodIn Ts (va_wsS own index y ws)) (hw : ws = Cond.codeWith y bytes maxL ret hh :: ws') (hrc : rm.cells = mc) (hrs : rm.slots = ms)
    (hd : y.cls ≠ "java/lang/invoke/MethodHandle" ∧ y.cls ≠ "java/lang/invoke/VarHandle" ∧ (parseMethodDescriptor y.desc).map (fun d => d.parameters.length) = some n) (hR : rm.frames + 1 ≤ R.frames ∧ 8 + (maxL + 11) + rm.locals ≤ R.locals) :
    vx_CSW R s args own index y bytes maxL ret hh ws rm mc ms n := by
  have ok : ∀ w ∈ va_wsS own index y ws, w.before args s = true := fun w h => ht w (hT w h).1
  have hG : GoodIn Ts ws := fun w h => hT w (by unfold va_wsS; exact List.mem_append_right _ h)
  have hc : Cond.codeWith y bytes maxL ret hh ∈ ws := by rw [hw]; exact List.mem_cons_self
  refine ⟨⟨hrc, hrs, hR.1, hR.2, pay_in ht hG, hc⟩, ht _ (hG _ hc).1, ok _ (by simp [va_wsS]), ⟨hd.1, hd.2.1⟩, fun sig h => ?_, ok _ (by simp [va_wsS]), ok _ (by simp [va_wsS])⟩
  have h2 := hd.2.2
  rw [h] at h2
  exact (Option.some.inj h2).symm
theorem vx_callSW (X : Stand p l e R s m args below meth c T locs cells slots) (hexec : p.tables.exec = Jvm.exec) {own : String} {index : Nat} {y : MethodName} {bytes : ByteArray} {maxL : Nat} {ret : Option FieldType} {hh : List (Nat × Nat × Nat × Nat)}
    (hown : s.vm.findClass own = some m.cls) (hlink : (Cond.methodLink own index y).before args s = true) (hstat : (Cond.static y).before args s = true) (hinit : (Cond.initialized y.cls).before args s = true)
    (hcode : (Cond.codeWith y bytes maxL ret hh).before args s = true) (hy : y.cls ≠ "java/lang/invoke/MethodHandle" ∧ y.cls ≠ "java/lang/invoke/VarHandle")
    {W9 : Nat} {Pre : Pt → Array Value → Prop} {Post : Pt → Array Value → Option Value → Pt → Prop} (hK : Back l R p e below s args y 3 W9 Pre Post)
    {g : JFrame} (hg : g.method = m) (hsize : g.locals.size = c.maxLocals) {argsL rest : List Value} (hlen : ∀ sig, parseMethodDescriptor y.desc = some sig → argsL.length = sig.parameters.length)
    (hstack : g.stack = argsL.reverse ++ rest) (hW : 2 * g.monitorRoom + (rest.map fun v => v.category).sum ≤ W9) (hdg : decode c.code g.pc = .ok (.invokestatic index, 3))
    (hpre : ∀ vm₁, s.WarmedH vm₁ → Pre ⟨T.setVm vm₁, locs, cells, slots⟩ argsL.toArray) :
    ∃ (v : Option Value) (vm₁ : Vm) (B : Pt), s.WarmedH vm₁ ∧ Stand p l e R s m args below meth c B.U B.locs B.cells B.slots ∧ Post ⟨T.setVm vm₁, locs, cells, slots⟩ argsL.toArray v B ∧
      ∀ target, Steps p.tables e below (B.U.setTop { g with pc := g.pc + 3, stack := v.toList ++ rest }) target → Steps p.tables e below (T.setTop g) target := by
  obtain ⟨mk, methM, cM, hnamed, hmethM, -, -, -, -, -, -, hsigM⟩ := Cond.codeWith_spec hcode
  have hstatic : methM.isStatic = true := Cond.static_spec hnamed hmethM hstat
  obtain ⟨kP, hkP, -⟩ := className_of_methodNamed hnamed
  have hinitP : kP.init = .initialized := Cond.initialized_spec (findClass_of_methodNamed hnamed) hkP hinit
  obtain ⟨vm₁, X₁, hstep₁⟩ := X.invokestatic hexec hown hlink hnamed hmethM hstatic hkP hinitP hy (g := g) hg (argsL := argsL) (rest := rest) (hlen _ hsigM) hstack hdg
  obtain ⟨v, B, X', hpost, hsteps⟩ := hK m meth c ⟨T.setVm vm₁, locs, cells, slots⟩ { g with stack := rest } (.invokestatic index) mk argsL.toArray X₁ hg hsize hdg hW (X₁.named hnamed) (hpre vm₁ X₁.warmed)
  exact ⟨v, vm₁, B, X₁.warmed, X', hpost, fun target h => hstep₁ _ fun acts => by rw [doInvoke_state]; exact hsteps.trans h⟩
theorem vx_runSW {y : MethodName} {bytes cc : ByteArray} {maxL nL mc ms n index : Nat} {ret : Option FieldType} {hh : List (Nat × Nat × Nat × Nat)} {ws : List Cond} {rm : Room} {Pc : Array Value → State → Prop} {Qc : Array Value → State → Outcome → State → Prop} {free : Addr → Prop} {Ts : List Cond} {own : String} {As rest : List Value} {g : JFrame}
    (S : CallFix p m c cc nL s args Ts own) (hM : Met l y ws rm Pc Qc mc ms free) (cw : vx_CSW R s args own index y bytes maxL ret hh ws rm mc ms n) (hp : PreS s H Pc As)
    (hg : g.method = m) (hn : As.length = n) (hsize : g.locals.size = nL) (hstack : g.stack = As.reverse ++ rest) (hW : 2 * g.monitorRoom + (rest.map fun v => v.category).sum ≤ 8) (hdg : decode cc g.pc = .ok (.invokestatic index, 3)) (hf : cells + mc ≤ R.cells ∧ slots + ms ≤ R.slots) :
    va_Run p l e R s m args below meth c H locs cells slots mc ms g rest (Qc As.toArray) (free) := by
  obtain ⟨⟨hrc, hrs, hfr, hlo, hws, hcw⟩, hcode, hini, hy, hlen, hl, hstt⟩ := cw
  have hK : Back l R p e below s args y 3 8 (PreOf R mc ms Pc) (PostOf Qc mc ms free) := va_backW (hh := hh) (bytes := bytes) (maxL := maxL) (ret := ret) hM hp.1 hrc hrs hfr hlo hws hcw (fun a' U hW => word_at hW (Or.inl (by first | rfl | simp [Cond.onTables, Cond.keeps, Cond.steady])) hini)
  obtain ⟨hx, hb, hml, ho, -⟩ := S
  intro T hT X
  obtain ⟨v, vm₁, ⟨U', l2, c2, s2⟩, hW₁, X', ⟨g', mk, t, L, e1, e2, hq, h1, hL, h2, h3⟩, st⟩ := vx_callSW X hx (hh := hh) (bytes := bytes) (maxL := maxL) (ret := ret) ho hl hstt hini hcode hy hK hg (hsize.trans hml.symm) (argsL := As) (rest := rest) (fun sig h => hn.trans (hlen sig h)) hstack hW (by rw [hb]; exact hdg)
    (fun vm₁ hW₁ => ⟨hf.1, hf.2, hp.2 (T.setVm vm₁) hT hW₁⟩)
  dsimp only [Pt.U, Pt.locs, Pt.cells, Pt.slots] at X' e1 e2 h1 h2 h3 st
  subst h1; subst h2; subst h3
  exact ⟨v, (T.setVm vm₁).calling g' mk As.toArray, t, U', L, hT, X', hL, e1, e2, hq, st⟩
/-- not caught here, past rows that name other classes: it goes on to the caller -/
theorem vx_outP {p : Program} {l : Launch} {e : Env} {R : Room} {s : State} {m : MethodId} {args : Array Value} {below : List Frame} {meth : Method} {c : Code} {H : Heap} {locs : List Loc} {cells slots : Nat} {free : Addr → Prop} {ls : Array Slot} {rest : List Value} {Qc : Array Value → State → Outcome → State → Prop} {XC : String → State → State → Prop}
    {pc : Nat} {own E : String} {ce : Cell} {q : Addr} {mc ms : Nat} (hown : s.vm.findClass own = some m.cls) (hlocks : meth.locks = false)
    (hpass : ∀ z ∈ c.exceptionTable.toList, covers z pc = false ∨ (z.catchType ≠ 0 ∧ ∃ nm : String, (Cond.classLink own z.catchType nm).before args s = true ∧ va_Nc E nm s)) (hcell : H[q]? = some ce) (hv : ce.vm = .none) (hcl : s.vm.findClass E = some ce.cls)
    (hx : ∀ t : State, t.heap = H → s.vm.Alike t.vm → XC E s t) (hf : ∀ z ∈ locs, free z.base) (hc : cells ≤ mc) (hs : slots ≤ ms) :
    vx_W p l e R s m args below meth c H locs cells slots (vx_MQ below Qc XC args s mc ms free) (F0 m pc ls rest) q := by
  intro T hT X
  have hpl : e.platform.magicAccessors = ({} : Platform).magicAccessors := by rw [X.admits.platform]
  obtain ⟨vm', hW', X', st⟩ := X.outThrough hlocks q (g := F0 m pc ls rest) rfl rfl rfl (cell := ce) (by rw [hT]; exact hcell) (by rw [hv]; rfl)
    (by obtain ⟨k9, h9, -⟩ := Vm.findClass_spec hcl; exact ⟨k9, h9⟩) (fun z hz => by
      rcases hpass z hz with h | ⟨hz0, nm, hl1, hn1⟩
      · exact Or.inl h
      · obtain ⟨c6, hc6, hcl6⟩ := Cond.classLink_spec hown hl1 e.platform hpl
        obtain ⟨a8, b8, h1, h2, h3⟩ := hn1
        cases Option.some.inj (h1.symm.trans hcl)
        cases Option.some.inj (h2.symm.trans hc6)
        exact Or.inr ⟨hz0, _, hcl6, h3⟩)
  obtain ⟨g₀, hfr⟩ := X'.frames_eq
  have hcell9 : ((T.setVm vm').setFrames (.throwing q :: below)).heap[q]? = some ce := by
    show T.heap[q]? = some ce
    rw [hT]; exact hcell
  have hend : Ended ((T.setVm vm').setFrames (.throwing q :: below)) below (.threw q) := State.frames_setFrames _ (State.cur_lt_of_frames hfr)
  refine ⟨(T.setVm vm').setFrames (.throwing q :: below), ?_, .threw q, X'.here.running, hend, Or.inr ⟨q, rfl, E, ce, locs, hx _ hT (X'.ends _).1.alike, hcell9, hv, hcl, (X'.ends _).1, (X'.ends _).2.mono hc hs, hf⟩⟩
  rw [X.pushThrowing_eq]
  exact st
/-- a thing of a world lies in the heap -/
theorem vx_lt {D : va_G} {cl : List vw_C} {ws : va_W} {H1 : Heap} (h : va_P D cl ws H1) {k : Nat} {q : Nat × va_E} (hk : ws[k]? = some q) : q.1 < H1.size := (h k q hk).lt
end VXS
/-! ===== END ===== -/
/-! ===== BEGIN methods with a table of their own: called by a name, returning or throwing ===== -/
section VXH
/-! vx_backW, vx_callVX, vx_callSX, vx_callVW, vx_runVW, vx_runVX, vx_runSX, vx_ofWH follow the same proofs as their sisters above (Free/Laws.lean, Shelf42/LK1.lean); vx_outP calls Shelf42/NT130.lean (outThrough). -/
section
variable {l : Launch} {R : Room} {p : Program} {e : Env} {below : List Frame} {s : State} {sargs : Array Value} {y : MethodName} {len W9 : Nat}
theorem vx_backW {ws : List Cond} {rm : Room} {Pc : Array Value → State → Prop} {Qc : Array Value → State → Outcome → State → Prop} {XC : String → State → State → Prop} {mc ms : Nat} {free : Addr → Prop} {bytes : ByteArray} {maxL : Nat} {ret : Option FieldType} {hh : List (Nat × Nat × Nat × Nat)}
    (hM : vx_Met l y ws rm Pc Qc XC mc ms free) (hblind : FrameBlind Pc) (hrc : rm.cells = mc) (hrs : rm.slots = ms)
    (hframes : rm.frames + 1 ≤ R.frames) (hlocals : W9 + (maxL + 11) + rm.locals ≤ R.locals)
    (hws : ∀ w ∈ ws, ∀ a' U, s.WarmedH U.vm → w.before a' U = true) (hcode : Cond.codeWith y bytes maxL ret hh ∈ ws) (hinit : ∀ a' U, s.WarmedH U.vm → (Cond.initialized y.cls).before a' U = true) :
    vx_Back l R p e below s sargs y len W9 (PreOf R mc ms Pc) (PostOf Qc mc ms free) (vx_Post XC mc ms free) := by
  intro m meth c A g ig mk a X hg hsize hdg hW hn hp
  have h1 : (headSpec ws rm).pre.before a A.U = true := atoms_intro fun w hw => hws w hw _ _ X.warmed
  have h2 : (Cond.codeWith y bytes maxL ret hh).before a A.U = true := hws _ hcode _ _ X.warmed
  have h3 : (Cond.initialized y.cls).before a A.U = true := hinit _ _ X.warmed
  have h4 : A.cells + (headSpec ws rm).room.cells ≤ R.cells := by rw [show (headSpec ws rm).room.cells = mc from hrc]; exact hp.1
  have h5 : A.slots + (headSpec ws rm).room.slots ≤ R.slots := by rw [show (headSpec ws rm).room.slots = ms from hrs]; exact hp.2.1
  have hPc : Pc a (A.U.calling g mk a) := hblind _ _ _ _ hp.2.2
  obtain ⟨U, Ls, c0, s0⟩ := A
  dsimp only [Pt.U, Pt.locs, Pt.cells, Pt.slots] at h1 h2 h3 h4 h5 X hn hPc ⊢
  obtain ⟨m9, methY, cY, hn9, hmY, hcY, -, hlY, -⟩ := Cond.codeWith_spec h2
  cases Option.some.inj (hn9.symm.trans hn)
  obtain ⟨kY, hkY, -⟩ := className_of_methodNamed hn
  have hinitY : kY.init = .initialized := Cond.initialized_spec (findClass_of_methodNamed hn) hkY h3
  have h : At U g.method c below := by rw [hg]; exact X.here
  have hlocals9 : W9 + (maxL + 11) + (headSpec ws rm).room.locals ≤ R.locals := hlocals
  have happ : (headSpec ws rm).appliesLoose y e.platform (U.calling g mk a) = true :=
    Spec.appliesLoose_calling (g := g) h hdg hn hkY hinitY
      (X.room_calling (g := g) (R' := (headSpec ws rm).room) hsize hmY hcY hframes (by rw [hlY]; omega) h4 h5) h1
  obtain ⟨mid, hmid⟩ := h.above
  have hfr : (U.setTop g).frames = (.java g :: mid) ++ below := by rw [State.frames_setTop' g h.top, hmid]; rfl
  obtain ⟨o, s₂, hsteps, -, hend, hq⟩ := Steps.callFree hM p X.admits X.cas X.clock (acts := []) hfr happ hPc trivial
  have hq' : vx_Q Qc XC mc ms free a (U.calling g mk a) o s₂ := hq
  rw [State.frames_setTop' g h.top] at hend
  obtain ⟨g₀, hg0⟩ := Option.isSome_iff_exists.mp h.top
  obtain ⟨r, hr⟩ := State.topJava?_eq_some.mp hg0
  have hr' : (({ U with heap := s₂.heap, slotsUsed := s₂.slotsUsed } : State).setVm s₂.vm).frames = .java g₀ :: r := hr
  rcases hq' with ⟨hqc, L, hfe, hL⟩ | ⟨q, rfl, E, ce, L, hx, hce, hcv, hcl, hW₂, hsm, hL⟩
  · obtain ⟨⟨v, rfl⟩, hW₂, e2, q2, q3, q4, q5, q6⟩ := id hfe
    have e3 : s₂ = ({ (U.calling g mk a).setFrames s₂.frames with heap := s₂.heap, slotsUsed := s₂.slotsUsed } : State).setVm s₂.vm := by
      have : s₂ = ({ s₂ with vm := (U.calling g mk a).vm } : State).setVm s₂.vm := rfl
      rw [e2] at this
      exact this
    obtain ⟨c₂, i₂, len₂, hc₂, hd₂, hf₂⟩ := hend
    have hW' : U.WarmedH s₂.vm := hW₂
    have hcc : c₂ = c := by
      have h1 : s₂.code? g.method = U.code? g.method := by
        rw [State.code?_eq, State.code?_eq, hW'.alike.method?]
      exact Option.some.inj (hc₂.symm.trans (h1.trans h.code))
    subst hcc
    have hlen : len₂ = len := by rw [hdg] at hd₂; cases hd₂; rfl
    subst hlen
    have hs₂ : s₂ = (({ U with heap := s₂.heap, slotsUsed := s₂.slotsUsed } : State).setVm s₂.vm).setTop { g with pc := g.pc + len₂, stack := v.toList ++ g.stack } := by
      refine e3.trans ?_
      rw [hf₂, State.calling_eq h.top, State.setFrames_setFrames, State.setTop_of_frames _ hr', hr]
      rfl
    have hsame : U.sameButNew ({ U with heap := s₂.heap, slotsUsed := s₂.slotsUsed } : State) L mc ms := by
      refine ⟨?_, q2, q3, q4, q5, q6⟩
      obtain ⟨t, ht, -⟩ := State.frames_cons hr
      show ({ U with heap := s₂.heap, slotsUsed := s₂.slotsUsed } : State) = { U.setFrames U.frames with heap := s₂.heap, slotsUsed := s₂.slotsUsed }
      rw [State.setFrames_self ht]
    subst hg
    refine Or.inl ⟨v, ⟨(({ U with heap := s₂.heap, slotsUsed := s₂.slotsUsed } : State).setVm s₂.vm), Ls ++ L, c0 + mc, s0 + ms⟩,
      ⟨X.admits, X.cas, X.clock, X.frames, X.room, X.hears, X.method, X.code, (X.here.setHeapUsed s₂.heap s₂.slotsUsed).setVm hW'.alike, X.tail, State.WarmedH.trans X.warmed hW', X.limits, X.bytes, X.same.trans (hsame.setVm s.vm)⟩,
      ⟨g, mk, s₂, L, rfl, rfl, hqc, rfl, hL, rfl, rfl⟩, ?_⟩
    show Steps p.tables e below _ ((({ U with heap := s₂.heap, slotsUsed := s₂.slotsUsed } : State).setVm s₂.vm).setTop { g with pc := g.pc + len₂, stack := v.toList ++ g.stack })
    rw [← hs₂]
    exact hsteps
  · obtain ⟨e2, q2, q3, q4, q5, q6⟩ := id hsm
    have e3 : s₂ = ({ (U.calling g mk a).setFrames s₂.frames with heap := s₂.heap, slotsUsed := s₂.slotsUsed } : State).setVm s₂.vm := by
      have : s₂ = ({ s₂ with vm := (U.calling g mk a).vm } : State).setVm s₂.vm := rfl
      rw [e2] at this
      exact this
    have hf₂ : s₂.frames = .throwing q :: .java g :: U.frames.tail := hend
    have hW' : U.WarmedH s₂.vm := hW₂
    have hs₂ : s₂ = ((({ U with heap := s₂.heap, slotsUsed := s₂.slotsUsed } : State).setVm s₂.vm).setTop g).pushFrame (.throwing q) := by
      refine e3.trans ?_
      rw [hf₂, State.calling_eq h.top, State.setFrames_setFrames, State.pushFrame, State.frames_setTop _ hr', State.setTop_of_frames _ hr', State.setFrames_setFrames, hr]
      rfl
    have hsame : U.sameButNew ({ U with heap := s₂.heap, slotsUsed := s₂.slotsUsed } : State) L mc ms := by
      refine ⟨?_, q2, q3, q4, q5, q6⟩
      obtain ⟨t, ht, -⟩ := State.frames_cons hr
      show ({ U with heap := s₂.heap, slotsUsed := s₂.slotsUsed } : State) = { U.setFrames U.frames with heap := s₂.heap, slotsUsed := s₂.slotsUsed }
      rw [State.setFrames_self ht]
    subst hg
    refine Or.inr ⟨q, ⟨(({ U with heap := s₂.heap, slotsUsed := s₂.slotsUsed } : State).setVm s₂.vm), Ls ++ L, c0 + mc, s0 + ms⟩,
      ⟨X.admits, X.cas, X.clock, X.frames, X.room, X.hears, X.method, X.code, (X.here.setHeapUsed s₂.heap s₂.slotsUsed).setVm hW'.alike, X.tail, State.WarmedH.trans X.warmed hW', X.limits, X.bytes, X.same.trans (hsame.setVm s.vm)⟩,
      ⟨g, mk, s₂, L, E, ce, rfl, rfl, hx, hce, hcv, hcl, rfl, hL, rfl, rfl⟩, ?_⟩
    show Steps p.tables e below _ (((({ U with heap := s₂.heap, slotsUsed := s₂.slotsUsed } : State).setVm s₂.vm).setTop g).pushFrame (.throwing q))
    rw [← hs₂]
    exact hsteps
end
variable {p : Program} {l : Launch} {e : Env} {R : Room} {s : State} {m : MethodId} {args : Array Value} {below : List Frame} {meth : Method} {c : Code} {T : State} {H : Heap} {locs : List Loc} {cells slots : Nat}
theorem vx_callVX (X : Stand p l e R s m args below meth c T locs cells slots) (hexec : p.tables.exec = Jvm.exec) {own C : String} {index : Nat} {y : MethodName} {bytes : ByteArray} {maxL : Nat} {ret : Option FieldType} {hh : List (Nat × Nat × Nat × Nat)}
    (hown : s.vm.findClass own = some m.cls) (hlink : (Cond.methodLink own index y).before args s = true) (hinst : (Cond.instanceMethod y).before args s = true) (hsel : (Cond.selects C y y).before args s = true)
    (hcode : (Cond.codeWith y bytes maxL ret hh).before args s = true) (hy : y.cls ≠ "java/lang/invoke/MethodHandle" ∧ y.cls ≠ "java/lang/invoke/VarHandle")
    {W9 : Nat} {Pre : Pt → Array Value → Prop} {Post : Pt → Array Value → Option Value → Pt → Prop} {PostX : Pt → Array Value → Addr → Pt → Prop} (hK : vx_Back l R p e below s args y 3 W9 Pre Post PostX)
    {b : Addr} {cellB : Cell} (hcell : T.heap[b]? = some cellB) (hobj : cellB.vm.isStatics = false) (hcls : s.vm.findClass C = some cellB.cls)
    {g : JFrame} (hg : g.method = m) (hsize : g.locals.size = c.maxLocals) {argsL rest : List Value} (hlen : ∀ sig, parseMethodDescriptor y.desc = some sig → argsL.length = sig.parameters.length)
    (hstack : g.stack = argsL.reverse ++ .ref b :: rest) (hW : 2 * g.monitorRoom + (rest.map fun v => v.category).sum ≤ W9) (hdg : decode c.code g.pc = .ok (.invokevirtual index, 3))
    (hpre : ∀ vm₁, s.WarmedH vm₁ → Pre ⟨T.setVm vm₁, locs, cells, slots⟩ (Value.ref b :: argsL).toArray) :
    (∃ (v : Option Value) (vm₁ : Vm) (B : Pt), s.WarmedH vm₁ ∧ Stand p l e R s m args below meth c B.U B.locs B.cells B.slots ∧ Post ⟨T.setVm vm₁, locs, cells, slots⟩ (Value.ref b :: argsL).toArray v B ∧
      ∀ target, Steps p.tables e below (B.U.setTop { g with pc := g.pc + 3, stack := v.toList ++ rest }) target → Steps p.tables e below (T.setTop g) target) ∨
    (∃ (q : Addr) (vm₁ : Vm) (B : Pt), s.WarmedH vm₁ ∧ Stand p l e R s m args below meth c B.U B.locs B.cells B.slots ∧ PostX ⟨T.setVm vm₁, locs, cells, slots⟩ (Value.ref b :: argsL).toArray q B ∧
      Steps p.tables e below (T.setTop g) ((B.U.setTop { g with stack := rest }).pushFrame (.throwing q))) := by
  obtain ⟨mk, methM, hnamed, hmethM, hstM, habM⟩ := Cond.instanceMethod_spec hinst
  obtain ⟨m8, methM', cM, hn8, hmethM', -, -, -, -, -, -, hsigM⟩ := Cond.codeWith_spec hcode
  cases Option.some.inj (hn8.symm.trans hnamed)
  cases hmethM.symm.trans hmethM'
  obtain ⟨c2, r2, m2, q1, q2, q3, q4, kP, hkP, hkPi⟩ := Cond.selects_spec hsel
  cases hcls.symm.trans q1
  cases (State.methodFound?_of_named hnamed hy).symm.trans q2
  cases hnamed.symm.trans q3
  have hselP : selectMethod e.platform s.vm cellB.cls mk = .method mk := by rw [Launch.admits_selectMethod X.admits]; exact q4
  obtain ⟨vm₁, X₁, hstep₁⟩ := X.invokevirtual hexec hown hlink hnamed hmethM hstM hkP hkPi hy (a := b) (cell := cellB) hcell
    (fun z h => by rw [h] at hobj; cases hobj) hselP hmethM habM hkP hkPi (g := g) hg (argsL := argsL) (rest := rest) (hlen _ hsigM) hstack hdg
  rcases hK m meth c ⟨T.setVm vm₁, locs, cells, slots⟩ { g with stack := rest } (.invokevirtual index) mk (Value.ref b :: argsL).toArray X₁ hg hsize hdg hW (X₁.named hnamed) (hpre vm₁ X₁.warmed) with ⟨v, B, X', hpost, hsteps⟩ | ⟨q, B, X', hpost, hsteps⟩
  · exact Or.inl ⟨v, vm₁, B, X₁.warmed, X', hpost, fun target h => hstep₁ _ fun acts => by rw [doInvoke_state]; exact hsteps.trans h⟩
  · exact Or.inr ⟨q, vm₁, B, X₁.warmed, X', hpost, hstep₁ _ fun acts => by rw [doInvoke_state]; exact hsteps⟩
theorem vx_callSX (X : Stand p l e R s m args below meth c T locs cells slots) (hexec : p.tables.exec = Jvm.exec) {own : String} {index : Nat} {y : MethodName} {bytes : ByteArray} {maxL : Nat} {ret : Option FieldType} {hh : List (Nat × Nat × Nat × Nat)}
    (hown : s.vm.findClass own = some m.cls) (hlink : (Cond.methodLink own index y).before args s = true) (hstat : (Cond.static y).before args s = true) (hinit : (Cond.initialized y.cls).before args s = true)
    (hcode : (Cond.codeWith y bytes maxL ret hh).before args s = true) (hy : y.cls ≠ "java/lang/invoke/MethodHandle" ∧ y.cls ≠ "java/lang/invoke/VarHandle")
    {W9 : Nat} {Pre : Pt → Array Value → Prop} {Post : Pt → Array Value → Option Value → Pt → Prop} {PostX : Pt → Array Value → Addr → Pt → Prop} (hK : vx_Back l R p e below s args y 3 W9 Pre Post PostX)
    {g : JFrame} (hg : g.method = m) (hsize : g.locals.size = c.maxLocals) {argsL rest : List Value} (hlen : ∀ sig, parseMethodDescriptor y.desc = some sig → argsL.length = sig.parameters.length)
    (hstack : g.stack = argsL.reverse ++ rest) (hW : 2 * g.monitorRoom + (rest.map fun v => v.category).sum ≤ W9) (hdg : decode c.code g.pc = .ok (.invokestatic index, 3))
    (hpre : ∀ vm₁, s.WarmedH vm₁ → Pre ⟨T.setVm vm₁, locs, cells, slots⟩ argsL.toArray) :
    (∃ (v : Option Value) (vm₁ : Vm) (B : Pt), s.WarmedH vm₁ ∧ Stand p l e R s m args below meth c B.U B.locs B.cells B.slots ∧ Post ⟨T.setVm vm₁, locs, cells, slots⟩ argsL.toArray v B ∧
      ∀ target, Steps p.tables e below (B.U.setTop { g with pc := g.pc + 3, stack := v.toList ++ rest }) target → Steps p.tables e below (T.setTop g) target) ∨
    (∃ (q : Addr) (vm₁ : Vm) (B : Pt), s.WarmedH vm₁ ∧ Stand p l e R s m args below meth c B.U B.locs B.cells B.slots ∧ PostX ⟨T.setVm vm₁, locs, cells, slots⟩ argsL.toArray q B ∧
      Steps p.tables e below (T.setTop g) ((B.U.setTop { g with stack := rest }).pushFrame (.throwing q))) := by
  obtain ⟨mk, methM, cM, hnamed, hmethM, -, -, -, -, -, -, hsigM⟩ := Cond.codeWith_spec hcode
  have hstatic : methM.isStatic = true := Cond.static_spec hnamed hmethM hstat
  obtain ⟨kP, hkP, -⟩ := className_of_methodNamed hnamed
  have hinitP : kP.init = .initialized := Cond.initialized_spec (findClass_of_methodNamed hnamed) hkP hinit
  obtain ⟨vm₁, X₁, hstep₁⟩ := X.invokestatic hexec hown hlink hnamed hmethM hstatic hkP hinitP hy (g := g) hg (argsL := argsL) (rest := rest) (hlen _ hsigM) hstack hdg
  rcases hK m meth c ⟨T.setVm vm₁, locs, cells, slots⟩ { g with stack := rest } (.invokestatic index) mk argsL.toArray X₁ hg hsize hdg hW (X₁.named hnamed) (hpre vm₁ X₁.warmed) with ⟨v, B, X', hpost, hsteps⟩ | ⟨q, B, X', hpost, hsteps⟩
  · exact Or.inl ⟨v, vm₁, B, X₁.warmed, X', hpost, fun target h => hstep₁ _ fun acts => by rw [doInvoke_state]; exact hsteps.trans h⟩
  · exact Or.inr ⟨q, vm₁, B, X₁.warmed, X', hpost, hstep₁ _ fun acts => by rw [doInvoke_state]; exact hsteps⟩
theorem vx_callVW (X : Stand p l e R s m args below meth c T locs cells slots) (hexec : p.tables.exec = Jvm.exec) {own C : String} {index : Nat} {y : MethodName} {bytes : ByteArray} {maxL : Nat} {ret : Option FieldType} {hh : List (Nat × Nat × Nat × Nat)}
    (hown : s.vm.findClass own = some m.cls) (hlink : (Cond.methodLink own index y).before args s = true) (hinst : (Cond.instanceMethod y).before args s = true) (hsel : (Cond.selects C y y).before args s = true)
    (hcode : (Cond.codeWith y bytes maxL ret hh).before args s = true) (hy : y.cls ≠ "java/lang/invoke/MethodHandle" ∧ y.cls ≠ "java/lang/invoke/VarHandle")
    {W9 : Nat} {Pre : Pt → Array Value → Prop} {Post : Pt → Array Value → Option Value → Pt → Prop} (hK : Back l R p e below s args y 3 W9 Pre Post)
    {b : Addr} {cellB : Cell} (hcell : T.heap[b]? = some cellB) (hobj : cellB.vm.isStatics = false) (hcls : s.vm.findClass C = some cellB.cls)
    {g : JFrame} (hg : g.method = m) (hsize : g.locals.size = c.maxLocals) {argsL rest : List Value} (hlen : ∀ sig, parseMethodDescriptor y.desc = some sig → argsL.length = sig.parameters.length)
    (hstack : g.stack = argsL.reverse ++ .ref b :: rest) (hW : 2 * g.monitorRoom + (rest.map fun v => v.category).sum ≤ W9) (hdg : decode c.code g.pc = .ok (.invokevirtual index, 3))
    (hpre : ∀ vm₁, s.WarmedH vm₁ → Pre ⟨T.setVm vm₁, locs, cells, slots⟩ (Value.ref b :: argsL).toArray) :
    ∃ (v : Option Value) (vm₁ : Vm) (B : Pt), s.WarmedH vm₁ ∧ Stand p l e R s m args below meth c B.U B.locs B.cells B.slots ∧ Post ⟨T.setVm vm₁, locs, cells, slots⟩ (Value.ref b :: argsL).toArray v B ∧
      ∀ target, Steps p.tables e below (B.U.setTop { g with pc := g.pc + 3, stack := v.toList ++ rest }) target → Steps p.tables e below (T.setTop g) target := by
  obtain ⟨mk, methM, hnamed, hmethM, hstM, habM⟩ := Cond.instanceMethod_spec hinst
  obtain ⟨m8, methM', cM, hn8, hmethM', -, -, -, -, -, -, hsigM⟩ := Cond.codeWith_spec hcode
  cases Option.some.inj (hn8.symm.trans hnamed)
  cases hmethM.symm.trans hmethM'
  obtain ⟨c2, r2, m2, q1, q2, q3, q4, kP, hkP, hkPi⟩ := Cond.selects_spec hsel
  cases hcls.symm.trans q1
  cases (State.methodFound?_of_named hnamed hy).symm.trans q2
  cases hnamed.symm.trans q3
  have hselP : selectMethod e.platform s.vm cellB.cls mk = .method mk := by rw [Launch.admits_selectMethod X.admits]; exact q4
  obtain ⟨vm₁, X₁, hstep₁⟩ := X.invokevirtual hexec hown hlink hnamed hmethM hstM hkP hkPi hy (a := b) (cell := cellB) hcell
    (fun z h => by rw [h] at hobj; cases hobj) hselP hmethM habM hkP hkPi (g := g) hg (argsL := argsL) (rest := rest) (hlen _ hsigM) hstack hdg
  obtain ⟨v, B, X', hpost, hsteps⟩ := hK m meth c ⟨T.setVm vm₁, locs, cells, slots⟩ { g with stack := rest } (.invokevirtual index) mk (Value.ref b :: argsL).toArray X₁ hg hsize hdg hW (X₁.named hnamed) (hpre vm₁ X₁.warmed)
  exact ⟨v, vm₁, B, X₁.warmed, X', hpost, fun target h => hstep₁ _ fun acts => by rw [doInvoke_state]; exact hsteps.trans h⟩
abbrev vx_CVW (R : Room) (s : State) (args : Array Value) (own C : String) (index : Nat) (y : MethodName) (bytes : ByteArray) (maxL : Nat) (ret : Option FieldType) (hh : List (Nat × Nat × Nat × Nat)) (ws : List Cond) (rm : Room) (mc ms n : Nat) : Prop :=
  (rm.cells = mc ∧ rm.slots = ms ∧ rm.frames + 1 ≤ R.frames ∧ 8 + (maxL + 11) + rm.locals ≤ R.locals ∧ (∀ w ∈ ws, ∀ (a' : Array Value) (U : State), s.WarmedH U.vm → w.before a' U = true) ∧ Cond.codeWith y bytes maxL ret hh ∈ ws) ∧
  (Cond.codeWith y bytes maxL ret hh).before args s = true ∧ (Cond.initialized y.cls).before args s = true ∧ (y.cls ≠ "java/lang/invoke/MethodHandle" ∧ y.cls ≠ "java/lang/invoke/VarHandle") ∧
  (∀ sig, parseMethodDescriptor y.desc = some sig → n = sig.parameters.length) ∧ (Cond.methodLink own index y).before args s = true ∧ (Cond.instanceMethod y).before args s = true ∧ (Cond.selects C y y).before args s = true
theorem vx_cwVW {own C : String} {index maxL mc ms : Nat} {y : MethodName} {bytes : ByteArray} {ret : Option FieldType} {hh : List (Nat × Nat × Nat × Nat)} {Ts ws ws' : List Cond} {rm : Room} (n : Nat) (ht : ∀ w ∈ Ts, w.before args s = true) (hT : GoodIn Ts (wsV own index C y ws)) (hw : ws = Cond.codeWith y bytes maxL ret hh :: ws') (hrc : rm.cells = mc) (hrs : rm.slots = ms)
    (hd : y.cls = C ∧ y.cls ≠ "java/lang/invoke/MethodHandle" ∧ y.cls ≠ "java/lang/invoke/VarHandle" ∧ (parseMethodDescriptor y.desc).map (fun d => d.parameters.length) = some n) (hR : rm.frames + 1 ≤ R.frames ∧ 8 + (maxL + 11) + rm.locals ≤ R.locals) :
    vx_CVW R s args own C index y bytes maxL ret hh ws rm mc ms n := by
  obtain ⟨hC, hd⟩ := hd
  subst hC
  have ok : ∀ w ∈ wsV own index y.cls y ws, w.before args s = true := fun w h => ht w (hT w h).1
  have hG : GoodIn Ts ws := fun w h => hT w (by unfold wsV; exact List.mem_append_right _ h)
  have hc : Cond.codeWith y bytes maxL ret hh ∈ ws := by rw [hw]; exact List.mem_cons_self
  refine ⟨⟨hrc, hrs, hR.1, hR.2, pay_in ht hG, hc⟩, ht _ (hG _ hc).1, ok _ (by simp [wsV]), ⟨hd.1, hd.2.1⟩, fun sig h => ?_, ok _ (by simp [wsV]), ok _ (by simp [wsV]), ok _ (by simp [wsV])⟩
  have h2 := hd.2.2
  rw [h] at h2
  exact (Option.some.inj h2).symm
theorem vx_runVW {y : MethodName} {bytes cc : ByteArray} {maxL nL mc ms n index : Nat} {ret : Option FieldType} {hh : List (Nat × Nat × Nat × Nat)} {ws : List Cond} {rm : Room} {Pc : Array Value → State → Prop} {Qc : Array Value → State → Outcome → State → Prop} {free : Addr → Prop} {Ts : List Cond} {own C : String} {b : Addr} {As rest : List Value} {g : JFrame}
    (S : CallFix p m c cc nL s args Ts own) (hM : Met l y ws rm Pc Qc mc ms free) (cw : vx_CVW R s args own C index y bytes maxL ret hh ws rm mc ms n) (hp : PreV s H C b Pc As)
    (hg : g.method = m) (hn : As.length = n) (hsize : g.locals.size = nL) (hstack : g.stack = As.reverse ++ .ref b :: rest) (hW : 2 * g.monitorRoom + (rest.map fun v => v.category).sum ≤ 8) (hdg : decode cc g.pc = .ok (.invokevirtual index, 3)) (hf : cells + mc ≤ R.cells ∧ slots + ms ≤ R.slots) :
    va_Run p l e R s m args below meth c H locs cells slots mc ms g rest (Qc (Value.ref b :: As).toArray) free := by
  obtain ⟨⟨hrc, hrs, hfr, hlo, hws, hcw⟩, hcode, hini, hy, hlen, hl, hin, hse⟩ := cw
  have hK : Back l R p e below s args y 3 8 (PreOf R mc ms Pc) (PostOf Qc mc ms free) := va_backW (hh := hh) (bytes := bytes) (maxL := maxL) (ret := ret) hM hp.1 hrc hrs hfr hlo hws hcw (fun a' U hW => word_at hW (Or.inl (by first | rfl | simp [Cond.onTables, Cond.keeps, Cond.steady])) hini)
  obtain ⟨hx, hb, hml, ho, -⟩ := S
  obtain ⟨-, ⟨cellB, hcB, hoB, hclB⟩, hPc⟩ := hp
  intro T hT X
  obtain ⟨v, vm₁, ⟨U', l2, c2, s2⟩, hW₁, X', ⟨g', mk, t, L, e1, e2, hq, h1, hL, h2, h3⟩, st⟩ := vx_callVW X hx (C := C) (hh := hh) (bytes := bytes) (maxL := maxL) (ret := ret) ho hl hin hse hcode hy hK (by rw [hT]; exact hcB) hoB hclB hg (hsize.trans hml.symm) (argsL := As) (rest := rest) (fun sig h => hn.trans (hlen sig h)) hstack hW (by rw [hb]; exact hdg)
    (fun vm₁ hW₁ => ⟨hf.1, hf.2, hPc (T.setVm vm₁) hT hW₁⟩)
  dsimp only [Pt.U, Pt.locs, Pt.cells, Pt.slots] at X' e1 e2 h1 h2 h3 st
  subst h1; subst h2; subst h3
  exact ⟨v, (T.setVm vm₁).calling g' mk (Value.ref b :: As).toArray, t, U', L, hT, X', hL, e1, e2, hq, st⟩
section
variable {y : MethodName} {bytes cc : ByteArray} {maxL nL mc ms n index : Nat} {ret : Option FieldType} {ws : List Cond} {rm : Room} {Pc : Array Value → State → Prop} {Qc : Array Value → State → Outcome → State → Prop} {XC : String → State → State → Prop} {free : Addr → Prop} {Ts : List Cond} {own C : String} {b : Addr} {As rest : List Value} {g : JFrame}
theorem vx_runVX {hh : List (Nat × Nat × Nat × Nat)} (S : CallFix p m c cc nL s args Ts own) (hM : vx_Met l y ws rm Pc Qc XC mc ms free) (cw : vx_CVW R s args own C index y bytes maxL ret hh ws rm mc ms n) (hp : PreV s H C b Pc As)
    (hg : g.method = m) (hn : As.length = n) (hsize : g.locals.size = nL) (hstack : g.stack = As.reverse ++ .ref b :: rest) (hW : 2 * g.monitorRoom + (rest.map fun v => v.category).sum ≤ 8) (hdg : decode cc g.pc = .ok (.invokevirtual index, 3)) (hf : cells + mc ≤ R.cells ∧ slots + ms ≤ R.slots) :
    vx_Run p l e R s m args below meth c H locs cells slots mc ms g rest (Qc (Value.ref b :: As).toArray) XC free := by
  obtain ⟨⟨hrc, hrs, hfr, hlo, hws, hcw⟩, hcode, hini, hy, hlen, hl, hin, hse⟩ := cw
  have hK : vx_Back l R p e below s args y 3 8 (PreOf R mc ms Pc) (PostOf Qc mc ms free) (vx_Post XC mc ms free) := vx_backW (hh := hh) (bytes := bytes) (maxL := maxL) (ret := ret) hM hp.1 hrc hrs hfr hlo hws hcw (fun a' U hW => word_at hW (Or.inl (by first | rfl | simp [Cond.onTables, Cond.keeps, Cond.steady])) hini)
  obtain ⟨hx, hb, hml, ho, -⟩ := S
  obtain ⟨-, ⟨cellB, hcB, hoB, hclB⟩, hPc⟩ := hp
  intro T hT X
  rcases vx_callVX X hx (C := C) (hh := hh) (bytes := bytes) (maxL := maxL) (ret := ret) ho hl hin hse hcode hy hK (by rw [hT]; exact hcB) hoB hclB hg (hsize.trans hml.symm) (argsL := As) (rest := rest) (fun sig h => hn.trans (hlen sig h)) hstack hW (by rw [hb]; exact hdg)
    (fun vm₁ hW₁ => ⟨hf.1, hf.2, hPc (T.setVm vm₁) hT hW₁⟩) with ⟨v, vm₁, ⟨U', l2, c2, s2⟩, hW₁, X', ⟨g', mk, t, L, e1, e2, hq, h1, hL, h2, h3⟩, st⟩ | ⟨q, vm₁, ⟨U', l2, c2, s2⟩, hW₁, X', ⟨g', mk, t, L, E, ce, e1, e2, hq, hce, hcv, hcl, h1, hL, h2, h3⟩, st⟩
  · dsimp only [Pt.U, Pt.locs, Pt.cells, Pt.slots] at X' e1 e2 h1 h2 h3 st
    subst h1; subst h2; subst h3
    exact Or.inl ⟨v, (T.setVm vm₁).calling g' mk (Value.ref b :: As).toArray, t, U', L, hT, X', hL, e1, e2, hq, st⟩
  · dsimp only [Pt.U, Pt.locs, Pt.cells, Pt.slots] at X' e1 e2 h1 h2 h3 st hcl
    subst h1; subst h2; subst h3
    exact Or.inr ⟨q, (T.setVm vm₁).calling g' mk (Value.ref b :: As).toArray, t, U', L, E, ce, hT, X', hL, e1, e2, hq, hce, hcv, vx_cls hW₁ hcl, st⟩
theorem vx_runSX {hh : List (Nat × Nat × Nat × Nat)} (S : CallFix p m c cc nL s args Ts own) (hM : vx_Met l y ws rm Pc Qc XC mc ms free) (cw : vx_CSW R s args own index y bytes maxL ret hh ws rm mc ms n) (hp : PreS s H Pc As)
    (hg : g.method = m) (hn : As.length = n) (hsize : g.locals.size = nL) (hstack : g.stack = As.reverse ++ rest) (hW : 2 * g.monitorRoom + (rest.map fun v => v.category).sum ≤ 8) (hdg : decode cc g.pc = .ok (.invokestatic index, 3)) (hf : cells + mc ≤ R.cells ∧ slots + ms ≤ R.slots) :
    vx_Run p l e R s m args below meth c H locs cells slots mc ms g rest (Qc As.toArray) XC free := by
  obtain ⟨⟨hrc, hrs, hfr, hlo, hws, hcw⟩, hcode, hini, hy, hlen, hl, hstt⟩ := cw
  have hK : vx_Back l R p e below s args y 3 8 (PreOf R mc ms Pc) (PostOf Qc mc ms free) (vx_Post XC mc ms free) := vx_backW (hh := hh) (bytes := bytes) (maxL := maxL) (ret := ret) hM hp.1 hrc hrs hfr hlo hws hcw (fun a' U hW => word_at hW (Or.inl (by first | rfl | simp [Cond.onTables, Cond.keeps, Cond.steady])) hini)
  obtain ⟨hx, hb, hml, ho, -⟩ := S
  intro T hT X
  rcases vx_callSX X hx (hh := hh) (bytes := bytes) (maxL := maxL) (ret := ret) ho hl hstt hini hcode hy hK hg (hsize.trans hml.symm) (argsL := As) (rest := rest) (fun sig h => hn.trans (hlen sig h)) hstack hW (by rw [hb]; exact hdg)
    (fun vm₁ hW₁ => ⟨hf.1, hf.2, hp.2 (T.setVm vm₁) hT hW₁⟩) with ⟨v, vm₁, ⟨U', l2, c2, s2⟩, hW₁, X', ⟨g', mk, t, L, e1, e2, hq, h1, hL, h2, h3⟩, st⟩ | ⟨q, vm₁, ⟨U', l2, c2, s2⟩, hW₁, X', ⟨g', mk, t, L, E, ce, e1, e2, hq, hce, hcv, hcl, h1, hL, h2, h3⟩, st⟩
  · dsimp only [Pt.U, Pt.locs, Pt.cells, Pt.slots] at X' e1 e2 h1 h2 h3 st
    subst h1; subst h2; subst h3
    exact Or.inl ⟨v, (T.setVm vm₁).calling g' mk As.toArray, t, U', L, hT, X', hL, e1, e2, hq, st⟩
  · dsimp only [Pt.U, Pt.locs, Pt.cells, Pt.slots] at X' e1 e2 h1 h2 h3 st hcl
    subst h1; subst h2; subst h3
    exact Or.inr ⟨q, (T.setVm vm₁).calling g' mk As.toArray, t, U', L, E, ce, hT, X', hL, e1, e2, hq, hce, hcv, vx_cls hW₁ hcl, st⟩
end
end VXH
theorem vx_ofWH {l : Launch} {y : MethodName} {ws ws' : List Cond} {rm : Room} {Pc : Array Value → State → Prop} {Qc : Array Value → State → Outcome → State → Prop} {XC : String → State → State → Prop} {mc ms : Nat} {free : Addr → Prop} {cc : ByteArray} {maxL : Nat} {ret : Option FieldType} {hh : List (Nat × Nat × Nat × Nat)}
    (hy : plainName y.cls = true) (hw : ws = Cond.codeWith y cc maxL ret hh :: ws')
    (body : ∀ p e s m args below meth c s₁, BodyLoose p l y (headSpec ws rm) cc maxL ret e s m args below meth c s₁ → c.maxLocals = maxL → Pc args s →
      W p l e (headSpec ws rm).room s m args below meth c s.heap [] 0 0 (vx_MQ below Qc XC args s mc ms free) (entryFrame m args maxL)) : vx_Met l y ws rm Pc Qc XC mc ms free := by
  refine MetFree.of_bodyS (code := cc) (maxLocals := maxL) (ret := ret) hy ?_ ?_
  · intro args s m h hn
    obtain ⟨m9, meth, c, hn9, h1, h2, h3, h4, -, h5, h6, -⟩ := Cond.codeWith_spec (atoms_spec (ws := ws) h _ (by rw [hw]; exact List.mem_cons_self))
    cases hn.symm.trans hn9
    exact ⟨meth, c, h1, h2, h3, h4, h5, h6⟩
  · intro p e s m args below meth c s₁ B hml hP _
    have hh0 : s₁.heap = s.heap := by rw [B.state]; rfl
    obtain ⟨t, a1, o, b1, b2, b3⟩ := body p e s m args below meth c s₁ B hml hP s₁ hh0 (Stand.of_body B)
    exact ⟨t, o, a1, b1, b2, b3⟩
/-! ===== END ===== -/
end
section
def RX0 : String := "SignRoots$Division"
def TX0 : u_T := fun k => match k with
  | 0 => ("SignRoots$Division", "dividend", "[I", true)
  | 1 => ("SignRoots$Division", "quotient", "[I", true)
  | 2 => ("SignRoots$Division", "bestRow", "[I", true)
  | 3 => ("SignRoots$Division", "root", "I", false)
  | 4 => ("SignRoots$Division", "highest", "I", false)
  | _ => ("SignRoots$Division", "place", "I", false)
def tyX0 : Nat → FieldType := fun k => match k with
  | 0 => .array .int
  | 1 => .array .int
  | 2 => .array .int
  | 3 => .int
  | 4 => .int
  | _ => .int
abbrev wsX00 : List Cond := u_ws RX0 TX0 6
theorem nmX0 : ∀ a, a < 6 → ∀ b, b < 6 → a ≠ b → (TX0 a).2.1 ≠ (TX0 b).2.1 := by decide +kernel
theorem tyX0_ok : ∀ k, k < 6 → parseFieldDescriptor (TX0 k).2.2.1 = some (tyX0 k) := by decide +kernel
abbrev cX0_init : ByteArray := prog_2_method_1_code
def yX0_init : MethodName := ⟨RX0, "<init>", "()V"⟩
abbrev cX0_start : ByteArray := prog_2_method_2_code
def yX0_start : MethodName := ⟨RX0, "start", "([II)V"⟩
abbrev cX0_advance : ByteArray := prog_2_method_3_code
def yX0_advance : MethodName := ⟨RX0, "advance", "()Z"⟩
abbrev cX0_rememberBest : ByteArray := prog_2_method_4_code
def yX0_rememberBest : MethodName := ⟨RX0, "rememberBest", "()V"⟩
abbrev cX0_fits : ByteArray := prog_2_method_5_code
def yX0_fits : MethodName := ⟨RX0, "fits", "(I)Z"⟩
def RX1 : String := "SignRoots$State"
def TX1 : u_T := fun k => match k with
  | 0 => ("SignRoots$State", "signs", "[[I", true)
  | 1 => ("SignRoots$State", "roots", "[I", true)
  | 2 => ("SignRoots$State", "rootCount", "I", false)
  | 3 => ("SignRoots$State", "taken", "I", false)
  | _ => ("SignRoots$State", "refused", "I", false)
def tyX1 : Nat → FieldType := fun k => match k with
  | 0 => .array (.array .int)
  | 1 => .array .int
  | 2 => .int
  | 3 => .int
  | _ => .int
abbrev wsX10 : List Cond := u_ws RX1 TX1 5
theorem nmX1 : ∀ a, a < 5 → ∀ b, b < 5 → a ≠ b → (TX1 a).2.1 ≠ (TX1 b).2.1 := by decide +kernel
theorem tyX1_ok : ∀ k, k < 5 → parseFieldDescriptor (TX1 k).2.2.1 = some (tyX1 k) := by decide +kernel
abbrev cX1_init : ByteArray := prog_3_method_1_code
def yX1_init : MethodName := ⟨RX1, "<init>", "()V"⟩
abbrev cX1_takeOver : ByteArray := prog_3_method_2_code
def yX1_takeOver : MethodName := ⟨RX1, "takeOver", "(LSignRoots$State;)V"⟩
def RX2 : String := "SignRoots"
def TX2 : u_T := fun k => match k with
  | 0 => ("SignRoots", "now", "LSignRoots$State;", true)
  | 1 => ("SignRoots", "saved", "[LSignRoots$State;", true)
  | 2 => ("SignRoots", "savedStates", "I", false)
  | 3 => ("SignRoots", "slots", "[LSignRoots$State;", true)
  | 4 => ("SignRoots", "kept", "[Z", true)
  | 5 => ("SignRoots", "buffer", "[I", true)
  | 6 => ("SignRoots", "bufferLength", "I", false)
  | 7 => ("SignRoots", "whole", "[J", true)
  | _ => ("SignRoots", "divisions", "[LSignRoots$Division;", true)
def tyX2 : Nat → FieldType := fun k => match k with
  | 0 => .object "SignRoots$State"
  | 1 => .array (.object "SignRoots$State")
  | 2 => .int
  | 3 => .array (.object "SignRoots$State")
  | 4 => .array .boolean
  | 5 => .array .int
  | 6 => .int
  | 7 => .array .long
  | _ => .array (.object "SignRoots$Division")
abbrev wsX20 : List Cond := u_ws RX2 TX2 9
theorem nmX2 : ∀ a, a < 9 → ∀ b, b < 9 → a ≠ b → (TX2 a).2.1 ≠ (TX2 b).2.1 := by decide +kernel
theorem tyX2_ok : ∀ k, k < 9 → parseFieldDescriptor (TX2 k).2.2.1 = some (tyX2 k) := by decide +kernel
abbrev cX2_init : ByteArray := prog_1_method_1_code
def yX2_init : MethodName := ⟨RX2, "<init>", "()V"⟩
abbrev cX2_put : ByteArray := prog_1_method_2_code
def yX2_put : MethodName := ⟨RX2, "put", "(III)I"⟩
abbrev cX2_copy : ByteArray := prog_1_method_3_code
def yX2_copy : MethodName := ⟨RX2, "copy", "(II)I"⟩
abbrev cX2_divide : ByteArray := prog_1_method_4_code
def yX2_divide : MethodName := ⟨RX2, "divide", "(II)I"⟩
abbrev cX2_root : ByteArray := prog_1_method_5_code
def yX2_root : MethodName := ⟨RX2, "root", "(I)I"⟩
abbrev cX2_unroot : ByteArray := prog_1_method_6_code
def yX2_unroot : MethodName := ⟨RX2, "unroot", "()I"⟩
abbrev cX2_lower : ByteArray := prog_1_method_7_code
def yX2_lower : MethodName := ⟨RX2, "lower", "(I)I"⟩
abbrev cX2_append : ByteArray := prog_1_method_8_code
def yX2_append : MethodName := ⟨RX2, "append", "(I)I"⟩
abbrev cX2_clearBuffer : ByteArray := prog_1_method_9_code
def yX2_clearBuffer : MethodName := ⟨RX2, "clearBuffer", "()I"⟩
abbrev cX2_firstError : ByteArray := prog_1_method_10_code
def yX2_firstError : MethodName := ⟨RX2, "firstError", "()I"⟩
abbrev cX2_load : ByteArray := prog_1_method_11_code
def yX2_load : MethodName := ⟨RX2, "load", "(I)I"⟩
abbrev cX2_keep : ByteArray := prog_1_method_12_code
def yX2_keep : MethodName := ⟨RX2, "keep", "(I)I"⟩
abbrev cX2_goBack : ByteArray := prog_1_method_13_code
def yX2_goBack : MethodName := ⟨RX2, "goBack", "(I)I"⟩
abbrev cX2_undo : ByteArray := prog_1_method_14_code
def yX2_undo : MethodName := ⟨RX2, "undo", "()I"⟩
abbrev cX2_sign : ByteArray := prog_1_method_15_code
def yX2_sign : MethodName := ⟨RX2, "sign", "(II)I"⟩
abbrev cX2_of : ByteArray := prog_1_method_16_code
def yX2_of : MethodName := ⟨RX2, "of", "(II)I"⟩
abbrev cX2_isRoot : ByteArray := prog_1_method_17_code
def yX2_isRoot : MethodName := ⟨RX2, "isRoot", "(II)I"⟩
abbrev cX2_times : ByteArray := prog_1_method_18_code
def yX2_times : MethodName := ⟨RX2, "times", "(III)I"⟩
abbrev cX2_quotients : ByteArray := prog_1_method_19_code
def yX2_quotients : MethodName := ⟨RX2, "quotients", "(II)I"⟩
abbrev cX2_best : ByteArray := prog_1_method_20_code
def yX2_best : MethodName := ⟨RX2, "best", "(II)I"⟩
abbrev cX2_many : ByteArray := prog_1_method_21_code
def yX2_many : MethodName := ⟨RX2, "many", "(III)I"⟩
abbrev cX2_isIn : ByteArray := prog_1_method_22_code
def yX2_isIn : MethodName := ⟨RX2, "isIn", "(IIII)I"⟩
abbrev cX2_coefficient : ByteArray := prog_1_method_23_code
def yX2_coefficient : MethodName := ⟨RX2, "coefficient", "(I)J"⟩
abbrev cX2_count : ByteArray := prog_1_method_24_code
def yX2_count : MethodName := ⟨RX2, "count", "(I)I"⟩
abbrev cX2_takenShare : ByteArray := prog_1_method_25_code
def yX2_takenShare : MethodName := ⟨RX2, "takenShare", "(I)D"⟩
abbrev cX2_digest : ByteArray := prog_1_method_26_code
def yX2_digest : MethodName := ⟨RX2, "digest", "()J"⟩
abbrev cX2_checkNumber : ByteArray := prog_1_method_27_code
def yX2_checkNumber : MethodName := ⟨RX2, "checkNumber", "(I)V"⟩
abbrev cX2_checkPower : ByteArray := prog_1_method_28_code
def yX2_checkPower : MethodName := ⟨RX2, "checkPower", "(I)V"⟩
abbrev cX2_checkSign : ByteArray := prog_1_method_29_code
def yX2_checkSign : MethodName := ⟨RX2, "checkSign", "(I)V"⟩
abbrev cX2_checkSlot : ByteArray := prog_1_method_30_code
def yX2_checkSlot : MethodName := ⟨RX2, "checkSlot", "(I)V"⟩
abbrev cX2_checkWhat : ByteArray := prog_1_method_31_code
def yX2_checkWhat : MethodName := ⟨RX2, "checkWhat", "(II)V"⟩
abbrev cX2_save : ByteArray := prog_1_method_32_code
def yX2_save : MethodName := ⟨RX2, "save", "()V"⟩
abbrev cX2_dropOldest : ByteArray := prog_1_method_33_code
def yX2_dropOldest : MethodName := ⟨RX2, "dropOldest", "()V"⟩
abbrev cX2_signOf : ByteArray := prog_1_method_34_code
def yX2_signOf : MethodName := ⟨RX2, "signOf", "(J)I"⟩
abbrev cX2_markOf : ByteArray := prog_1_method_35_code
def yX2_markOf : MethodName := ⟨RX2, "markOf", "(I)I"⟩
abbrev cX2_holds : ByteArray := prog_1_method_36_code
def yX2_holds : MethodName := ⟨RX2, "holds", "(II)Z"⟩
abbrev cX2_sumMarks : ByteArray := prog_1_method_37_code
def yX2_sumMarks : MethodName := ⟨RX2, "sumMarks", "([I[II)I"⟩
abbrev cX2_productMarks : ByteArray := prog_1_method_38_code
def yX2_productMarks : MethodName := ⟨RX2, "productMarks", "([I[II)I"⟩
abbrev cX2_marksAt : ByteArray := prog_1_method_39_code
def yX2_marksAt : MethodName := ⟨RX2, "marksAt", "([I[III)I"⟩
abbrev cX2_isTooHigh : ByteArray := prog_1_method_40_code
def yX2_isTooHigh : MethodName := ⟨RX2, "isTooHigh", "([I[II)Z"⟩
abbrev cX2_rowsOf : ByteArray := prog_1_method_41_code
def yX2_rowsOf : MethodName := ⟨RX2, "rowsOf", "([I[II)I"⟩
abbrev cX2_isAmong : ByteArray := prog_1_method_42_code
def yX2_isAmong : MethodName := ⟨RX2, "isAmong", "([I[I[II)Z"⟩
abbrev cX2_degreeOf : ByteArray := prog_1_method_43_code
def yX2_degreeOf : MethodName := ⟨RX2, "degreeOf", "([I)I"⟩
abbrev cX2_notZero : ByteArray := prog_1_method_44_code
def yX2_notZero : MethodName := ⟨RX2, "notZero", "([I)I"⟩
abbrev cX2_isAloneNotZero : ByteArray := prog_1_method_45_code
def yX2_isAloneNotZero : MethodName := ⟨RX2, "isAloneNotZero", "([II)Z"⟩
abbrev cX2_formOf : ByteArray := prog_1_method_46_code
def yX2_formOf : MethodName := ⟨RX2, "formOf", "([I)I"⟩
abbrev cX2_powerOf : ByteArray := prog_1_method_47_code
def yX2_powerOf : MethodName := ⟨RX2, "powerOf", "(II)I"⟩
abbrev cX2_hasRoot : ByteArray := prog_1_method_48_code
def yX2_hasRoot : MethodName := ⟨RX2, "hasRoot", "([II)Z"⟩
abbrev cX2_changesOf : ByteArray := prog_1_method_49_code
def yX2_changesOf : MethodName := ⟨RX2, "changesOf", "([II)I"⟩
abbrev cX2_zerosBelow : ByteArray := prog_1_method_50_code
def yX2_zerosBelow : MethodName := ⟨RX2, "zerosBelow", "([I)I"⟩
abbrev cX2_countedTimes : ByteArray := prog_1_method_51_code
def yX2_countedTimes : MethodName := ⟨RX2, "countedTimes", "([II)I"⟩
abbrev cX2_shareOf : ByteArray := prog_1_method_52_code
def yX2_shareOf : MethodName := ⟨RX2, "shareOf", "([I)D"⟩
abbrev cX2_quotientsOf : ByteArray := prog_1_method_53_code
def yX2_quotientsOf : MethodName := ⟨RX2, "quotientsOf", "([II)I"⟩
abbrev cX2_bestForm : ByteArray := prog_1_method_54_code
def yX2_bestForm : MethodName := ⟨RX2, "bestForm", "(I)I"⟩
abbrev cX2_tryQuotients : ByteArray := prog_1_method_55_code
def yX2_tryQuotients : MethodName := ⟨RX2, "tryQuotients", "([II[LSignRoots$Division;I)I"⟩
abbrev cX2_expandWhole : ByteArray := prog_1_method_56_code
def yX2_expandWhole : MethodName := ⟨RX2, "expandWhole", "()V"⟩
abbrev cX2_rootsOfSign : ByteArray := prog_1_method_57_code
def yX2_rootsOfSign : MethodName := ⟨RX2, "rootsOfSign", "(I)I"⟩
abbrev cX2_errorPlace : ByteArray := prog_1_method_58_code
def yX2_errorPlace : MethodName := ⟨RX2, "errorPlace", "()I"⟩
abbrev cX2_isSignCode : ByteArray := prog_1_method_59_code
def yX2_isSignCode : MethodName := ⟨RX2, "isSignCode", "(I)Z"⟩
abbrev cX2_signOfCode : ByteArray := prog_1_method_60_code
def yX2_signOfCode : MethodName := ⟨RX2, "signOfCode", "(I)I"⟩
abbrev cX2_degreesTogether : ByteArray := prog_1_method_61_code
def yX2_degreesTogether : MethodName := ⟨RX2, "degreesTogether", "()I"⟩
abbrev cX2_withRootOne : ByteArray := prog_1_method_62_code
def yX2_withRootOne : MethodName := ⟨RX2, "withRootOne", "()I"⟩
abbrev cX2_mixed : ByteArray := prog_1_method_63_code
def yX2_mixed : MethodName := ⟨RX2, "mixed", "(JJ)J"⟩
abbrev cX2_mixedPolynomial : ByteArray := prog_1_method_64_code
def yX2_mixedPolynomial : MethodName := ⟨RX2, "mixedPolynomial", "(J[I)J"⟩
abbrev cX2_mixedPairs : ByteArray := prog_1_method_65_code
def yX2_mixedPairs : MethodName := ⟨RX2, "mixedPairs", "(J)J"⟩
abbrev cX2_mixedWhole : ByteArray := prog_1_method_66_code
def yX2_mixedWhole : MethodName := ⟨RX2, "mixedWhole", "(J)J"⟩
abbrev cX2_mixedTexts : ByteArray := prog_1_method_67_code
def yX2_mixedTexts : MethodName := ⟨RX2, "mixedTexts", "(J)J"⟩
abbrev cX2_bitsOf : ByteArray := prog_1_method_68_code
def yX2_bitsOf : MethodName := ⟨RX2, "bitsOf", "(D)J"⟩
def RX3 : String := "SignRootsModel"
def TX3 : u_T := fun k => match k with
  | 0 => ("SignRootsModel", "thrown", "I", false)
  | 1 => ("SignRootsModel", "s", "[I", true)
  | 2 => ("SignRootsModel", "saved", "[I", true)
  | 3 => ("SignRootsModel", "savedMany", "I", false)
  | 4 => ("SignRootsModel", "slots", "[I", true)
  | 5 => ("SignRootsModel", "hasSlot", "[Z", true)
  | 6 => ("SignRootsModel", "buffer", "[I", true)
  | 7 => ("SignRootsModel", "length", "I", false)
  | 8 => ("SignRootsModel", "quotient", "[I", true)
  | 9 => ("SignRootsModel", "best", "[I", true)
  | 10 => ("SignRootsModel", "bestTimes", "I", false)
  | 11 => ("SignRootsModel", "whole", "[J", true)
  | _ => ("SignRootsModel", "hash", "J", false)
def tyX3 : Nat → FieldType := fun k => match k with
  | 0 => .int
  | 1 => .array .int
  | 2 => .array .int
  | 3 => .int
  | 4 => .array .int
  | 5 => .array .boolean
  | 6 => .array .int
  | 7 => .int
  | 8 => .array .int
  | 9 => .array .int
  | 10 => .int
  | 11 => .array .long
  | _ => .long
abbrev wsX30 : List Cond := u_ws RX3 TX3 13
theorem nmX3 : ∀ a, a < 13 → ∀ b, b < 13 → a ≠ b → (TX3 a).2.1 ≠ (TX3 b).2.1 := by decide +kernel
theorem tyX3_ok : ∀ k, k < 13 → parseFieldDescriptor (TX3 k).2.2.1 = some (tyX3 k) := by decide +kernel
abbrev cX3_init : ByteArray := prog_5_method_1_code
def yX3_init : MethodName := ⟨RX3, "<init>", "()V"⟩
abbrev cX3_thrown : ByteArray := prog_5_method_2_code
def yX3_thrown : MethodName := ⟨RX3, "thrown", "()I"⟩
abbrev cX3_in : ByteArray := prog_5_method_3_code
def yX3_in : MethodName := ⟨RX3, "in", "(III)Z"⟩
abbrev cX3_fails : ByteArray := prog_5_method_4_code
def yX3_fails : MethodName := ⟨RX3, "fails", "(I)I"⟩
abbrev cX3_isPoly : ByteArray := prog_5_method_5_code
def yX3_isPoly : MethodName := ⟨RX3, "isPoly", "(I)Z"⟩
abbrev cX3_isSign : ByteArray := prog_5_method_6_code
def yX3_isSign : MethodName := ⟨RX3, "isSign", "(I)Z"⟩
abbrev cX3_signAt : ByteArray := prog_5_method_7_code
def yX3_signAt : MethodName := ⟨RX3, "signAt", "(II)I"⟩
abbrev cX3_degree : ByteArray := prog_5_method_8_code
def yX3_degree : MethodName := ⟨RX3, "degree", "(I)I"⟩
abbrev cX3_saves : ByteArray := prog_5_method_9_code
def yX3_saves : MethodName := ⟨RX3, "saves", "()V"⟩
abbrev cX3_refuses : ByteArray := prog_5_method_10_code
def yX3_refuses : MethodName := ⟨RX3, "refuses", "(I)I"⟩
abbrev cX3_isInSum : ByteArray := prog_5_method_11_code
def yX3_isInSum : MethodName := ⟨RX3, "isInSum", "(III)Z"⟩
abbrev cX3_changes : ByteArray := prog_5_method_12_code
def yX3_changes : MethodName := ⟨RX3, "changes", "([III)I"⟩
abbrev cX3_often : ByteArray := prog_5_method_13_code
def yX3_often : MethodName := ⟨RX3, "often", "(II)I"⟩
abbrev cX3_laysRow : ByteArray := prog_5_method_14_code
def yX3_laysRow : MethodName := ⟨RX3, "laysRow", "(II)V"⟩
abbrev cX3_isQuotient : ByteArray := prog_5_method_15_code
def yX3_isQuotient : MethodName := ⟨RX3, "isQuotient", "(III)Z"⟩
abbrev cX3_divides : ByteArray := prog_5_method_16_code
def yX3_divides : MethodName := ⟨RX3, "divides", "(II)I"⟩
abbrev cX3_notes : ByteArray := prog_5_method_17_code
def yX3_notes : MethodName := ⟨RX3, "notes", "(II)V"⟩
abbrev cX3_form : ByteArray := prog_5_method_18_code
def yX3_form : MethodName := ⟨RX3, "form", "([I)I"⟩
abbrev cX3_put : ByteArray := prog_5_method_19_code
def yX3_put : MethodName := ⟨RX3, "put", "(III)I"⟩
abbrev cX3_copy : ByteArray := prog_5_method_20_code
def yX3_copy : MethodName := ⟨RX3, "copy", "(II)I"⟩
abbrev cX3_divide : ByteArray := prog_5_method_21_code
def yX3_divide : MethodName := ⟨RX3, "divide", "(II)I"⟩
abbrev cX3_root : ByteArray := prog_5_method_22_code
def yX3_root : MethodName := ⟨RX3, "root", "(I)I"⟩
abbrev cX3_unroot : ByteArray := prog_5_method_23_code
def yX3_unroot : MethodName := ⟨RX3, "unroot", "()I"⟩
abbrev cX3_multiplies : ByteArray := prog_5_method_24_code
def yX3_multiplies : MethodName := ⟨RX3, "multiplies", "()V"⟩
abbrev cX3_lower : ByteArray := prog_5_method_25_code
def yX3_lower : MethodName := ⟨RX3, "lower", "(I)I"⟩
abbrev cX3_append : ByteArray := prog_5_method_26_code
def yX3_append : MethodName := ⟨RX3, "append", "(I)I"⟩
abbrev cX3_clearBuffer : ByteArray := prog_5_method_27_code
def yX3_clearBuffer : MethodName := ⟨RX3, "clearBuffer", "()I"⟩
abbrev cX3_error : ByteArray := prog_5_method_28_code
def yX3_error : MethodName := ⟨RX3, "error", "()I"⟩
abbrev cX3_firstError : ByteArray := prog_5_method_29_code
def yX3_firstError : MethodName := ⟨RX3, "firstError", "()I"⟩
abbrev cX3_load : ByteArray := prog_5_method_30_code
def yX3_load : MethodName := ⟨RX3, "load", "(I)I"⟩
abbrev cX3_degrees : ByteArray := prog_5_method_31_code
def yX3_degrees : MethodName := ⟨RX3, "degrees", "()I"⟩
abbrev cX3_keep : ByteArray := prog_5_method_32_code
def yX3_keep : MethodName := ⟨RX3, "keep", "(I)I"⟩
abbrev cX3_goBack : ByteArray := prog_5_method_33_code
def yX3_goBack : MethodName := ⟨RX3, "goBack", "(I)I"⟩
abbrev cX3_undo : ByteArray := prog_5_method_34_code
def yX3_undo : MethodName := ⟨RX3, "undo", "()I"⟩
abbrev cX3_sign : ByteArray := prog_5_method_35_code
def yX3_sign : MethodName := ⟨RX3, "sign", "(II)I"⟩
abbrev cX3_tells : ByteArray := prog_5_method_36_code
def yX3_tells : MethodName := ⟨RX3, "tells", "(II)I"⟩
abbrev cX3_of : ByteArray := prog_5_method_37_code
def yX3_of : MethodName := ⟨RX3, "of", "(II)I"⟩
abbrev cX3_has : ByteArray := prog_5_method_38_code
def yX3_has : MethodName := ⟨RX3, "has", "(II)Z"⟩
abbrev cX3_isRoot : ByteArray := prog_5_method_39_code
def yX3_isRoot : MethodName := ⟨RX3, "isRoot", "(II)I"⟩
abbrev cX3_times : ByteArray := prog_5_method_40_code
def yX3_times : MethodName := ⟨RX3, "times", "(III)I"⟩
abbrev cX3_quotients : ByteArray := prog_5_method_41_code
def yX3_quotients : MethodName := ⟨RX3, "quotients", "(II)I"⟩
abbrev cX3_bestForm : ByteArray := prog_5_method_42_code
def yX3_bestForm : MethodName := ⟨RX3, "bestForm", "(II)I"⟩
abbrev cX3_best : ByteArray := prog_5_method_43_code
def yX3_best : MethodName := ⟨RX3, "best", "(II)I"⟩
abbrev cX3_hasProduct : ByteArray := prog_5_method_44_code
def yX3_hasProduct : MethodName := ⟨RX3, "hasProduct", "(IIII)Z"⟩
abbrev cX3_isThree : ByteArray := prog_5_method_45_code
def yX3_isThree : MethodName := ⟨RX3, "isThree", "(IIII)Z"⟩
abbrev cX3_only : ByteArray := prog_5_method_46_code
def yX3_only : MethodName := ⟨RX3, "only", "(IIII)I"⟩
abbrev cX3_isTooHigh : ByteArray := prog_5_method_47_code
def yX3_isTooHigh : MethodName := ⟨RX3, "isTooHigh", "(III)Z"⟩
abbrev cX3_rows : ByteArray := prog_5_method_48_code
def yX3_rows : MethodName := ⟨RX3, "rows", "(III)I"⟩
abbrev cX3_many : ByteArray := prog_5_method_49_code
def yX3_many : MethodName := ⟨RX3, "many", "(III)I"⟩
abbrev cX3_isAmong : ByteArray := prog_5_method_50_code
def yX3_isAmong : MethodName := ⟨RX3, "isAmong", "(IIII)Z"⟩
abbrev cX3_isIn : ByteArray := prog_5_method_51_code
def yX3_isIn : MethodName := ⟨RX3, "isIn", "(IIII)I"⟩
abbrev cX3_coefficient : ByteArray := prog_5_method_52_code
def yX3_coefficient : MethodName := ⟨RX3, "coefficient", "(I)J"⟩
abbrev cX3_rootsOf : ByteArray := prog_5_method_53_code
def yX3_rootsOf : MethodName := ⟨RX3, "rootsOf", "(I)I"⟩
abbrev cX3_tellsCount : ByteArray := prog_5_method_54_code
def yX3_tellsCount : MethodName := ⟨RX3, "tellsCount", "(I)I"⟩
abbrev cX3_count : ByteArray := prog_5_method_55_code
def yX3_count : MethodName := ⟨RX3, "count", "(I)I"⟩
abbrev cX3_share : ByteArray := prog_5_method_56_code
def yX3_share : MethodName := ⟨RX3, "share", "(I)D"⟩
abbrev cX3_takenShare : ByteArray := prog_5_method_57_code
def yX3_takenShare : MethodName := ⟨RX3, "takenShare", "(I)D"⟩
abbrev cX3_hashes : ByteArray := prog_5_method_58_code
def yX3_hashes : MethodName := ⟨RX3, "hashes", "(J)V"⟩
abbrev cX3_hashesPoly : ByteArray := prog_5_method_59_code
def yX3_hashesPoly : MethodName := ⟨RX3, "hashesPoly", "(I)V"⟩
abbrev cX3_digest : ByteArray := prog_5_method_60_code
def yX3_digest : MethodName := ⟨RX3, "digest", "()J"⟩
def RJxe99ae : String := "java/lang/Double"
def TJxe99ae : u_T := fun k => match k with
  | _ => ("", "", "", false)
def tyJxe99ae : Nat → FieldType := fun k => match k with
  | _ => .int
theorem nmJxe99ae : ∀ a, a < 0 → ∀ b, b < 0 → a ≠ b → (TJxe99ae a).2.1 ≠ (TJxe99ae b).2.1 := by decide +kernel
theorem tyJxe99ae_ok : ∀ k, k < 0 → parseFieldDescriptor (TJxe99ae k).2.2.1 = some (tyJxe99ae k) := by decide +kernel
abbrev cJxe99ae_isNaN_b9ae7 : ByteArray := prog_6_method_6_code
def yJxe99ae_isNaN_b9ae7 : MethodName := ⟨RJxe99ae, "isNaN", "(D)Z"⟩
abbrev cJxe99ae_doubleToLongBits_ccdee : ByteArray := prog_6_method_23_code
def yJxe99ae_doubleToLongBits_ccdee : MethodName := ⟨RJxe99ae, "doubleToLongBits", "(D)J"⟩
def RJ0 : String := "java/lang/String"
def TJ0 : u_T := fun k => match k with
  | _ => ("", "", "", false)
def tyJ0 : Nat → FieldType := fun k => match k with
  | _ => .int
theorem nmJ0 : ∀ a, a < 0 → ∀ b, b < 0 → a ≠ b → (TJ0 a).2.1 ≠ (TJ0 b).2.1 := by decide +kernel
theorem tyJ0_ok : ∀ k, k < 0 → parseFieldDescriptor (TJ0 k).2.2.1 = some (tyJ0 k) := by decide +kernel
def RJ10 : String := "java/lang/System"
def TJ10 : u_T := fun k => match k with
  | _ => ("", "", "", false)
def tyJ10 : Nat → FieldType := fun k => match k with
  | _ => .int
theorem nmJ10 : ∀ a, a < 0 → ∀ b, b < 0 → a ≠ b → (TJ10 a).2.1 ≠ (TJ10 b).2.1 := by decide +kernel
theorem tyJ10_ok : ∀ k, k < 0 → parseFieldDescriptor (TJ10 k).2.2.1 = some (tyJ10 k) := by decide +kernel
def RL : String := "SignRootsLaw"
abbrev cL_put : ByteArray := method_3_code
def yL_put : MethodName := ⟨RL, "put", "(LSignRoots;III[J)I"⟩
abbrev cL_copy : ByteArray := method_4_code
def yL_copy : MethodName := ⟨RL, "copy", "(LSignRoots;II[J)I"⟩
abbrev cL_divide : ByteArray := method_5_code
def yL_divide : MethodName := ⟨RL, "divide", "(LSignRoots;II[J)I"⟩
abbrev cL_root : ByteArray := method_6_code
def yL_root : MethodName := ⟨RL, "root", "(LSignRoots;I[J)I"⟩
abbrev cL_lower : ByteArray := method_7_code
def yL_lower : MethodName := ⟨RL, "lower", "(LSignRoots;I[J)I"⟩
abbrev cL_append : ByteArray := method_8_code
def yL_append : MethodName := ⟨RL, "append", "(LSignRoots;I[J)I"⟩
abbrev cL_load : ByteArray := method_9_code
def yL_load : MethodName := ⟨RL, "load", "(LSignRoots;I[J)I"⟩
abbrev cL_keep : ByteArray := method_10_code
def yL_keep : MethodName := ⟨RL, "keep", "(LSignRoots;I[J)I"⟩
abbrev cL_goBack : ByteArray := method_11_code
def yL_goBack : MethodName := ⟨RL, "goBack", "(LSignRoots;I[J)I"⟩
abbrev cL_undo : ByteArray := method_12_code
def yL_undo : MethodName := ⟨RL, "undo", "(LSignRoots;[J)I"⟩
abbrev cL_sign : ByteArray := method_13_code
def yL_sign : MethodName := ⟨RL, "sign", "(LSignRoots;II[J)I"⟩
abbrev cL_of : ByteArray := method_14_code
def yL_of : MethodName := ⟨RL, "of", "(LSignRoots;II[J)I"⟩
abbrev cL_isRoot : ByteArray := method_15_code
def yL_isRoot : MethodName := ⟨RL, "isRoot", "(LSignRoots;II[J)I"⟩
abbrev cL_times : ByteArray := method_16_code
def yL_times : MethodName := ⟨RL, "times", "(LSignRoots;III[J)I"⟩
abbrev cL_quotients : ByteArray := method_17_code
def yL_quotients : MethodName := ⟨RL, "quotients", "(LSignRoots;II[J)I"⟩
abbrev cL_best : ByteArray := method_18_code
def yL_best : MethodName := ⟨RL, "best", "(LSignRoots;II[J)I"⟩
abbrev cL_many : ByteArray := method_19_code
def yL_many : MethodName := ⟨RL, "many", "(LSignRoots;III[J)I"⟩
abbrev cL_isIn : ByteArray := method_20_code
def yL_isIn : MethodName := ⟨RL, "isIn", "(LSignRoots;IIII[J)I"⟩
abbrev cL_coefficient : ByteArray := method_21_code
def yL_coefficient : MethodName := ⟨RL, "coefficient", "(LSignRoots;I[J)I"⟩
abbrev cL_count : ByteArray := method_22_code
def yL_count : MethodName := ⟨RL, "count", "(LSignRoots;I[J)I"⟩
abbrev cL_takenShare : ByteArray := method_23_code
def yL_takenShare : MethodName := ⟨RL, "takenShare", "(LSignRoots;I[D)I"⟩
abbrev cL_law : ByteArray := code
def yL_law : MethodName := ⟨RL, "law", "([I)Z"⟩
abbrev vwCl : List vw_C := [(RX0, TX0, 6), (RX1, TX1, 5), (RX2, TX2, 9), (RX3, TX3, 13)]
end
section
set_option linter.unusedVariables false
set_option linter.unusedSimpArgs false
/-! ===== the memory: what a pure picture of all cells is, by logical ids ===== -/
abbrev Mem : Type := Nat × (Nat → Nat → Int32) × (Nat → Nat → Int64) × (Nat → Nat → Option Nat) × (Nat → Nat → UInt64)
def mI (M : Mem) : Nat → Nat → Int32 := M.2.1
def mJ (M : Mem) : Nat → Nat → Int64 := M.2.2.1
def mR (M : Mem) : Nat → Nat → Option Nat := M.2.2.2.1
def mD (M : Mem) : Nat → Nat → UInt64 := M.2.2.2.2
def up2 {α : Type} (f : Nat → Nat → α) (a k : Nat) (v : α) : Nat → Nat → α := fun b j => if b = a ∧ j = k then v else f b j
def sI (M : Mem) (a k : Nat) (v : Int32) : Mem := (M.1, up2 (mI M) a k v, mJ M, mR M, mD M)
def sJ (M : Mem) (a k : Nat) (v : Int64) : Mem := (M.1, mI M, up2 (mJ M) a k v, mR M, mD M)
def sR (M : Mem) (a k : Nat) (v : Option Nat) : Mem := (M.1, mI M, mJ M, up2 (mR M) a k v, mD M)
def sD (M : Mem) (a k : Nat) (v : UInt64) : Mem := (M.1, mI M, mJ M, mR M, up2 (mD M) a k v)
/-- kinds of the ids: 0 Division, 1 State, 2 SignRoots, 3 the model, 4 int[], 5 long[], 6 boolean[], 7 Division[], 8 State[], 9 int[][], 10 double[] -/
def kdState : List Nat := [1, 9, 4, 4, 4, 4, 4, 4]
def lnState : List Nat := [0, 5, 9, 9, 9, 9, 9, 8]
def kdDiv : List Nat := [0, 4, 4, 4]
def lnDiv : List Nat := [0, 9, 9, 9]
def kdL : List Nat := [2] ++ kdState ++ [8, 8, 6, 4, 5, 7] ++ (List.replicate 8 kdState).flatten ++ (List.replicate 9 kdDiv).flatten ++ [3, 4, 4, 4, 6, 4, 4, 4, 5, 5, 10]
def lnL : List Nat := [0] ++ lnState ++ [6, 2, 2, 60, 9, 9] ++ (List.replicate 8 lnState).flatten ++ (List.replicate 9 lnDiv).flatten ++ [0, 56, 336, 112, 2, 60, 9, 9, 9, 1, 1]
def kd (i : Nat) : Nat := kdL.getD i 99
def ln (i : Nat) : Nat := lnL.getD i 0
abbrev Geo : Type := va_G × (Nat → ClassId)
abbrev tysOf (G : Geo) : List (ClassId × FieldType) := [(G.2 0, .int), (G.2 1, .long), (G.2 2, .boolean), (G.2 3, .object RX0), (G.2 4, .object RX1), (G.2 5, .array .int), (G.2 6, .double)]
def phys (ad : Nat → Nat) : Value → Value
  | .ref i => .ref (ad i)
  | v => v
def re (ad : Nat → Nat) (r : Option Nat) : Value := va_rf (r.map ad)
theorem phys_rf (ad : Nat → Nat) (r : Option Nat) : phys ad (va_rf r) = re ad r := by cases r <;> rfl
def ent (G : Geo) (ad : Nat → Nat) (M : Mem) (i : Nat) : va_E :=
  if kd i = 0 then .inr (0, [re ad (mR M i 0), re ad (mR M i 1), re ad (mR M i 2), .int (mI M i 3), .int (mI M i 4), .int (mI M i 5)])
  else if kd i = 1 then .inr (1, [re ad (mR M i 0), re ad (mR M i 1), .int (mI M i 2), .int (mI M i 3), .int (mI M i 4)])
  else if kd i = 2 then .inr (2, [re ad (mR M i 0), re ad (mR M i 1), .int (mI M i 2), re ad (mR M i 3), re ad (mR M i 4), re ad (mR M i 5), .int (mI M i 6), re ad (mR M i 7), re ad (mR M i 8)])
  else if kd i = 3 then .inr (3, [.int (mI M i 0), re ad (mR M i 1), re ad (mR M i 2), .int (mI M i 3), re ad (mR M i 4), re ad (mR M i 5), re ad (mR M i 6), .int (mI M i 7), re ad (mR M i 8), re ad (mR M i 9), .int (mI M i 10), re ad (mR M i 11), .long (mJ M i 12)])
  else if kd i = 4 then .inl (G.2 0, ln i, .inl (mI M i))
  else if kd i = 5 then .inl (G.2 1, ln i, .inr (.inl (mJ M i)))
  else if kd i = 6 then .inl (G.2 2, ln i, .inl (mI M i))
  else if kd i = 7 then .inl (G.2 3, ln i, .inr (.inr (.inr (.inr (fun k => (mR M i k).map ad)))))
  else if kd i = 8 then .inl (G.2 4, ln i, .inr (.inr (.inr (.inr (fun k => (mR M i k).map ad)))))
  else if kd i = 9 then .inl (G.2 5, ln i, .inr (.inr (.inr (.inr (fun k => (mR M i k).map ad)))))
  else .inl (G.2 6, ln i, .inr (.inr (.inr (.inl (mD M i)))))
def pool (G : Geo) (ad : Nat → Nat) (M : Mem) : va_W := (List.range M.1).map (fun i => (ad i, ent G ad M i))
theorem pool_at {G : Geo} {ad : Nat → Nat} {M : Mem} {i : Nat} (h : i < M.1) : (pool G ad M)[i]? = some (ad i, ent G ad M i) := by
  simp [pool, h]
theorem pool_set {G : Geo} {ad : Nat → Nat} {M M2 : Mem} {i : Nat} {x : va_E} (hn : M2.1 = M.1) (h : i < M.1) (hx : ent G ad M2 i = x) (ho : ∀ j, j ≠ i → ent G ad M2 j = ent G ad M j) : (pool G ad M).set i (ad i, x) = pool G ad M2 := by
  apply List.ext_getElem?
  intro j
  by_cases hj : j = i
  · subst hj
    rw [List.getElem?_set_self (by simp [pool, h]), pool_at (by rw [hn]; exact h), hx]
  · rw [List.getElem?_set_ne (Ne.symm hj)]
    by_cases hl : j < M.1
    · rw [pool_at hl, pool_at (by rw [hn]; exact hl), ho j hj]
    · simp [pool, hl, hn]
theorem ent_sI_ne {G : Geo} {ad : Nat → Nat} {M : Mem} {a k : Nat} {v : Int32} {j : Nat} (h : j ≠ a) : ent G ad (sI M a k v) j = ent G ad M j := by
  have e : ∀ q, mI (sI M a k v) j q = mI M j q := fun q => by show up2 _ _ _ _ _ _ = _; simp [up2, h]
  have e2 : mI (sI M a k v) j = mI M j := funext e
  simp only [ent, e2, show mR (sI M a k v) = mR M from rfl, show mJ (sI M a k v) = mJ M from rfl, show mD (sI M a k v) = mD M from rfl]
theorem ent_sJ_ne {G : Geo} {ad : Nat → Nat} {M : Mem} {a k : Nat} {v : Int64} {j : Nat} (h : j ≠ a) : ent G ad (sJ M a k v) j = ent G ad M j := by
  have e2 : mJ (sJ M a k v) j = mJ M j := funext fun q => by show up2 _ _ _ _ _ _ = _; simp [up2, h]
  simp only [ent, e2, show mR (sJ M a k v) = mR M from rfl, show mI (sJ M a k v) = mI M from rfl, show mD (sJ M a k v) = mD M from rfl]
theorem ent_sR_ne {G : Geo} {ad : Nat → Nat} {M : Mem} {a k : Nat} {v : Option Nat} {j : Nat} (h : j ≠ a) : ent G ad (sR M a k v) j = ent G ad M j := by
  have e2 : mR (sR M a k v) j = mR M j := funext fun q => by show up2 _ _ _ _ _ _ = _; simp [up2, h]
  simp only [ent, e2, show mJ (sR M a k v) = mJ M from rfl, show mI (sR M a k v) = mI M from rfl, show mD (sR M a k v) = mD M from rfl]
theorem ent_sD_ne {G : Geo} {ad : Nat → Nat} {M : Mem} {a k : Nat} {v : UInt64} {j : Nat} (h : j ≠ a) : ent G ad (sD M a k v) j = ent G ad M j := by
  have e2 : mD (sD M a k v) j = mD M j := funext fun q => by show up2 _ _ _ _ _ _ = _; simp [up2, h]
  simp only [ent, e2, show mJ (sD M a k v) = mJ M from rfl, show mI (sD M a k v) = mI M from rfl, show mR (sD M a k v) = mR M from rfl]
/-! ===== the words ===== -/
def BIG : List Cond := lw_tbl.filter goodWord
theorem in_big {w : Cond} (i : Nat) (h : lw_tbl[i]? = some w) (g : goodWord w = true) : w ∈ BIG := List.mem_filter.mpr ⟨List.mem_of_getElem? h, g⟩
theorem big_good {w : Cond} (h : w ∈ BIG) : goodWord w = true := (List.mem_filter.mp h).2
theorem big_in {ws : List Cond} (h : ∀ w ∈ ws, w ∈ BIG) {c : Cond} : GoodIn (c :: BIG) ws := fun w hw => ⟨List.mem_cons_of_mem _ (h w hw), good_of_word (big_good (h w hw))⟩
theorem big_inB {ws : List Cond} (h : ∀ w ∈ ws, w ∈ BIG) : GoodIn BIG ws := fun w hw => ⟨h w hw, good_of_word (big_good (h w hw))⟩
theorem big_cons {c : Cond} (h : c ∈ BIG) : ∀ w ∈ c :: BIG, w ∈ BIG := fun w hw => (List.mem_cons.mp hw).elim (fun e => e ▸ h) id
/-! ===== the judgement ===== -/
def Vok (n : Nat) (v : Value) : Prop := ∀ i, v = .ref i → i < n
def wfM (M : Mem) : Prop := ∀ i k j, i < M.1 → mR M i k = some j → j < M.1
def Wd (G : Geo) (ad : Nat → Nat) (M : Mem) (H : Heap) : Prop := va_P G.1 vwCl (pool G ad M) H ∧ (∀ i j, i < M.1 → j < M.1 → ad i = ad j → i = j) ∧ wfM M
def Aset (ad : Nat → Nat) (n sz : Nat) : Nat → Prop := fun q => (∃ i, i < n ∧ q = ad i) ∨ sz ≤ q
/-- what is known of the machine's tables, at any state of a run -/
def nestB (U : State) : Prop := (va_Nw (.methodLinkNest RX2 48 yX0_init RX2) U ∧ va_Nw (.methodLinkNest RX0 31 yX2_degreeOf RX2) U) ∧ va_Nw (.methodLinkNest RX0 46 yX2_markOf RX2) U ∧ va_Nw (.methodLinkNest RX0 50 yX2_holds RX2) U
def strB (U : State) : Prop := ∀ q ∈ ([(95, "a root is -9 to 9"), (113, "a character code is 33 to 126"), (117, "the buffer is full"), (124, "the buffer tells no polynomial"), (140, "the slot is empty"), (142, "there is no saved state"), (213, "there is no such polynomial"), (216, "a power is 0 to 8"), (218, "a sign is -1, 0 or 1"), (220, "a slot is 0 or 1"), (222, "there is no such thing to tell")] : List (Nat × String)), ∃ sa, vk_R RX2 q.1 q.2 sa U
def overB (U : State) : Prop := va_AO RX0 U ∧ va_AO RX1 U ∧ va_AOA .int U
abbrev yRE : MethodName := ⟨"java/lang/RuntimeException", "<init>", "(Ljava/lang/String;)V"⟩
abbrev yEX : MethodName := ⟨"java/lang/Exception", "<init>", "(Ljava/lang/String;)V"⟩
abbrev yTH : MethodName := ⟨"java/lang/Throwable", "<init>", "(Ljava/lang/String;)V"⟩
def castB (U : State) : Prop := (va_Nw (.castable "java/lang/IllegalArgumentException" "java/lang/IllegalArgumentException") U ∧ va_Nw (.castable "java/lang/IndexOutOfBoundsException" "java/lang/IndexOutOfBoundsException") U ∧ va_Nw (.castable "java/lang/IllegalStateException" "java/lang/IllegalStateException") U) ∧ va_Nw (.declares yRE) U ∧ va_Nw (.declares yEX) U ∧ va_Nw (.declares yTH) U
def KK (G : Geo) (A : Nat → Prop) (U : State) (H : Heap) : Prop := (va_K G.1 vwCl (tysOf G) U ∧ nestB U ∧ strB U ∧ overB U ∧ castB U) ∧ vx_Zq Bundle.tN "UNASSIGNED_STACK" Bundle.steD A U H ∧ vx_Zq Bundle.tN "SUPPRESSED_SENTINEL" Bundle.listD A U H
theorem idx_bare2 (vm : Vm) (comp : ClassId) : (vm.bare.classes.findIdx? fun (x : Class) => match x.kind with | .array component _ => component == comp | _ => false) = (vm.classes.findIdx? fun (x : Class) => match x.kind with | .array component _ => component == comp | _ => false) := by
  simp only [Vm.bare, Array.findIdx?_map]
  rfl
theorem va_AOA.moved {t : FieldType} {u U : State} (hvm : u.vm.Alike U.vm) (h : va_AOA t u) : va_AOA t U := by
  obtain ⟨comp, c, k, h1, h2, h3, h4, h5⟩ := Jvm.Stand.arrayOver_specB h
  obtain ⟨k', hk', he⟩ := hvm.2.2 _ _ h3
  have hi : (U.vm.classes.findIdx? fun (x : Class) => match x.kind with | .array component _ => component == comp | _ => false) = some c := by
    rw [← idx_bare2]
    first | rw [hvm.bare_eq] | rw [← hvm.bare_eq]
    rw [idx_bare2]
    exact h2
  have hkind : k'.kind = .array comp (.array t) := by rw [he]; exact h4
  have f1 : U.vm.findClass (FieldType.array t).toString = some comp := by rw [hvm.findClass]; exact h1
  have f2 : U.vm.findClass ("[" ++ (FieldType.array t).toString) = some c := by rw [hvm.findClass]; exact h5
  unfold va_AOA Cond.before Cond.holds
  simp only [Cond.value]
  rw [f1, Option.bind_some]
  refine (congrArg (fun o : Option Nat => (o.bind (fun c => (U.vm.classes[c]?).map fun (k : Class) => match k.kind with | .array _ ty => decide (ty = FieldType.array t) && decide (U.vm.findClass ("[" ++ (FieldType.array t).toString) = some c) | _ => false) == some true)) hi).trans ?_
  simp [hk', hkind, f2]
theorem KK.warm {G : Geo} {A : Nat → Prop} {s U : State} {H : Heap} (hW : s.WarmedH U.vm) (h : KK G A s H) : KK G A U H := by
  obtain ⟨⟨h1, ⟨⟨n1, n2⟩, n3, n4⟩, h3, ⟨o1, o2, o3⟩, ⟨c1, c2, c3⟩, e1, e2, e3⟩, z1, z2⟩ := h
  exact ⟨⟨va_K.moved hW.alike h1, ⟨⟨va_Nw.warmM hW n1, va_Nw.warmM hW n2⟩, va_Nw.warmM hW n3, va_Nw.warmM hW n4⟩, fun q hq => (h3 q hq).elim fun sa hsa => ⟨sa, vk_R.warm hW hsa⟩, ⟨va_AO.moved hW.alike o1, va_AO.moved hW.alike o2, va_AOA.moved hW.alike o3⟩, ⟨va_Nw.warmC hW c1, va_Nw.warmC hW c2, va_Nw.warmC hW c3⟩, va_Nw.warmD hW e1, va_Nw.warmD hW e2, va_Nw.warmD hW e3⟩, vx_Zq.moved hW.alike z1, vx_Zq.moved hW.alike z2⟩
theorem KK.kept {G : Geo} {A : Nat → Prop} {U : State} {H H1 : Heap} (h : KK G A U H) (hq : ∀ a : Nat, a < H.size → ¬ A a → H1[a]? = H[a]?) : KK G A U H1 := ⟨h.1, vx_Zq.kept h.2.1 hq, vx_Zq.kept h.2.2 hq⟩
theorem KK.narrow {G : Geo} {A B : Nat → Prop} {U : State} {H : Heap} (h : KK G A U H) (hAB : ∀ q, B q → A q) : KK G B U H := ⟨h.1, vx_Zq.narrow h.2.1 hAB, vx_Zq.narrow h.2.2 hAB⟩
def J (C : Program × Launch × Env × Room × State × MethodId × Array Value × List Frame × Method × Code × Heap × (Nat → Prop) × (State → Prop) × Nat × Geo × (Nat → Nat) × Nat) (cells slots : Nat) (M : Mem) (pc : Nat) (lv : List (Nat × Value)) (st : List Value) : Prop :=
  match C with
  | (p, l, e, R, s, m, args, below, meth, c, H0, A, Q, nL, G, ad0, n0) => ∀ (ad : Nat → Nat) (H : Heap) (locs : List Loc) (ls : Array Slot), Wd G ad M H → (∀ i, i < M.1 → A (ad i)) → (∀ i, i < n0 → ad i = ad0 i) → n0 ≤ M.1 → (∀ q ∈ lv, Vok M.1 q.2) → (∀ v ∈ st, Vok M.1 v) → va_S A H0 H locs → lv_has ls nL (lv.map fun q => (q.1, phys ad q.2)) → W p l e R s m args below meth c H locs cells slots Q (F0 m pc ls (st.map (phys ad)))
end
section
abbrev JC : Type := Program × Launch × Env × Room × State × MethodId × Array Value × List Frame × Method × Code × Heap × (Nat → Prop) × (State → Prop) × Nat × Geo × (Nat → Nat) × Nat
abbrev Res : Type := Mem × (String ⊕ Option Value)
theorem Vok_int {n : Nat} {v : Int32} : Vok n (.int v) := fun _ h => by cases h
theorem Vok_long {n : Nat} {v : Int64} : Vok n (.long v) := fun _ h => by cases h
theorem Vok_double {n : Nat} {v : UInt64} : Vok n (.double v) := fun _ h => by cases h
theorem Vok_null {n : Nat} : Vok n .null := fun _ h => by cases h
theorem Vok_rf {n : Nat} {r : Option Nat} (h : ∀ j, r = some j → j < n) : Vok n (va_rf r) := fun i e => by
  cases r with
  | none => cases e
  | some j => cases e; exact h _ rfl
theorem vs_c {n : Nat} {v : Value} {st : List Value} (h : Vok n v) (hs : ∀ w ∈ st, Vok n w) : ∀ w ∈ v :: st, Vok n w := fun w hw => (List.mem_cons.mp hw).elim (fun e => e ▸ h) (hs w)
theorem vs_t {n : Nat} {v : Value} {st : List Value} (hs : ∀ w ∈ v :: st, Vok n w) : ∀ w ∈ st, Vok n w := fun w hw => hs w (List.mem_cons_of_mem _ hw)
theorem vs_h {n : Nat} {v : Value} {st : List Value} (hs : ∀ w ∈ v :: st, Vok n w) : Vok n v := hs v List.mem_cons_self
theorem vl_at {n : Nat} {lv : List (Nat × Value)} (h : ∀ q ∈ lv, Vok n q.2) {k i : Nat} {v : Value} (e : lv[k]? = some (i, v)) : Vok n v := h (i, v) (List.mem_of_getElem? e)
theorem mp_at {ad : Nat → Nat} {lv : List (Nat × Value)} {k i : Nat} {v : Value} (e : lv[k]? = some (i, v)) : (lv.map fun q => (q.1, phys ad q.2))[k]? = some (i, phys ad v) := by
  rw [List.getElem?_map, e]
  rfl
theorem cat_phys (ad : Nat → Nat) (v : Value) : (phys ad v).category = v.category := by cases v <;> rfl
theorem mp_st1 {ad : Nat → Nat} {lv lv' : List (Nat × Value)} {i : Nat} {v : Value} (hl : (i, v) :: lv.filter (fun q => !(q.1 == i) && !(q.1 + 1 == i && q.2.category == 2)) = lv') :
    (i, phys ad v) :: (lv.map fun q => (q.1, phys ad q.2)).filter (fun q => !(q.1 == i) && !(q.1 + 1 == i && q.2.category == 2)) = lv'.map fun q => (q.1, phys ad q.2) := by
  subst hl
  simp only [List.map_cons, List.filter_map, Function.comp_def, cat_phys]
theorem mp_st2 {ad : Nat → Nat} {lv lv' : List (Nat × Value)} {i : Nat} {v : Value} (hl : (i, v) :: lv.filter (fun q => !(q.1 == i) && (!(q.1 == i + 1) && !(q.1 + 1 == i && q.2.category == 2))) = lv') :
    (i, phys ad v) :: (lv.map fun q => (q.1, phys ad q.2)).filter (fun q => !(q.1 == i) && (!(q.1 == i + 1) && !(q.1 + 1 == i && q.2.category == 2))) = lv'.map fun q => (q.1, phys ad q.2) := by
  subst hl
  simp only [List.map_cons, List.filter_map, Function.comp_def, cat_phys]
theorem vl_st {n : Nat} {lv lv' : List (Nat × Value)} {i : Nat} {v : Value} {f : Nat × Value → Bool} (hl : (i, v) :: lv.filter f = lv') (hv : Vok n v) (h : ∀ q ∈ lv, Vok n q.2) : ∀ q ∈ lv', Vok n q.2 := by
  subst hl
  intro q hq
  rcases List.mem_cons.mp hq with e | e
  · rw [e]; exact hv
  · exact h q (List.mem_filter.mp e).1
/-- what a return must show -/
def Qret (G : Geo) (ad0 : Nat → Nat) (n0 : Nat) (A : Nat → Prop) (res : Res) : Array Value → State → Outcome → State → Prop := fun _ st o t =>
  (∃ (ad : Nat → Nat) (rv : Option Value), res.2 = .inr rv ∧ o = .returned (rv.map (phys ad)) ∧ (∀ i, i < n0 → ad i = ad0 i) ∧ n0 ≤ res.1.1 ∧ Wd G ad res.1 t.heap ∧ (∀ i, i < res.1.1 → A (ad i)) ∧ ∀ v, rv = some v → Vok res.1.1 v) ∧ va_F A st t
def Qthr (G : Geo) (ad0 : Nat → Nat) (n0 : Nat) (A : Nat → Prop) (res : Res) : String → State → State → Prop := fun E st t =>
  (∃ (ad : Nat → Nat), res.2 = .inl E ∧ (∀ i, i < n0 → ad i = ad0 i) ∧ n0 ≤ res.1.1 ∧ Wd G ad res.1 t.heap ∧ (∀ i, i < res.1.1 → A (ad i))) ∧ va_F A st t
def PreC (G : Geo) (ad : Nat → Nat) (sz : Nat) (As : List Value) (M : Mem) : Array Value → State → Prop := va_Pc (As.map (phys ad)) (fun U => U.heap.size = sz ∧ Wd G ad M U.heap ∧ KK G (Aset ad M.1 sz) U U.heap ∧ ∀ v ∈ As, Vok M.1 v)
/-- a method's contract: x: it may throw -/
def Con (x : Bool) (l : Launch) (y : MethodName) (cc : ByteArray) (maxL : Nat) (ret : Option FieldType) (rm : Room) (As : List Value) (M : Mem) (res : Res) : Prop := ∀ (G : Geo) (ad : Nat → Nat) (sz : Nat),
  if x = true then vx_Met l y (.code y cc maxL ret :: BIG) rm (PreC G ad sz As M) (Qret G ad M.1 (Aset ad M.1 sz) res) (Qthr G ad M.1 (Aset ad M.1 sz) res) rm.cells rm.slots (Aset ad M.1 sz)
  else Met l y (.code y cc maxL ret :: BIG) rm (PreC G ad sz As M) (Qret G ad M.1 (Aset ad M.1 sz) res) rm.cells rm.slots (Aset ad M.1 sz)
def Ok (C : JC) (x : Bool) (cc : ByteArray) (nL : Nat) (rm : Room) (rt : Option FieldType) (own : String) (res : Res) : Prop := match C with
  | (p, l, e, R, s, m, args, below, meth, c, H0, A, Q, nL0, G, ad0, n0) => p.tables.exec = Jvm.exec ∧ c.code = cc ∧ c.maxLocals = nL ∧ nL0 = nL ∧ s.vm.findClass own = some m.cls ∧ (∀ w ∈ BIG, w.before args s = true) ∧ KK G A s s.heap ∧ H0 = s.heap ∧ (∀ q, s.heap.size ≤ q → A q) ∧ meth.locks = false ∧ meth.sig.returnType = rt ∧ R = rm ∧
    (Q = if x = true then vx_MQ below (Qret G ad0 n0 A res) (Qthr G ad0 n0 A res) args s rm.cells rm.slots A else MQ below (Qret G ad0 n0 A res) args s rm.cells rm.slots A) ∧ ((x = true → ∀ z ∈ c.exceptionTable.toList, False) ∧ l.stackTraces = false)
theorem J_iconst {C : JC} {x : Bool} {cc : ByteArray} {nL : Nat} {rm : Room} {rt : Option FieldType} {own : String} {res : Res} {ce sl : Nat} {M : Mem} {pc : Nat} {lv : List (Nat × Value)} {st : List Value} {n : Int} {v : Int32} (hC : Ok C x cc nL rm rt own res) (hdg : decode cc pc = .ok (.iconst n, 1)) (hv : Int32.ofInt n = v)
    (kk : J C ce sl M (pc + 1) lv (.int v :: st)) : J C ce sl M pc lv (st) := by
  obtain ⟨p, l, e, R, s, m, args, below, meth, c, H0, A, Q, nL0, G, ad0, n0⟩ := C
  obtain ⟨hx, hb, hml, hnl, hown, hts, hKK, hH0, hA, hlk, hrt, hR, hQ, hxt⟩ := hC
  intro ad H locs ls hW hAa hag hn hvl hvs hS hl
  exact lv_iconst hx hb hdg hv (kk ad H locs ls hW hAa hag hn hvl (vs_c Vok_int hvs) hS hl)
theorem J_bipush {C : JC} {x : Bool} {cc : ByteArray} {nL : Nat} {rm : Room} {rt : Option FieldType} {own : String} {res : Res} {ce sl : Nat} {M : Mem} {pc : Nat} {lv : List (Nat × Value)} {st : List Value} {n : Int} {v : Int32} (hC : Ok C x cc nL rm rt own res) (hdg : decode cc pc = .ok (.bipush n, 2)) (hv : (Int8.ofInt n).toInt32 = v)
    (kk : J C ce sl M (pc + 2) lv (.int v :: st)) : J C ce sl M pc lv (st) := by
  obtain ⟨p, l, e, R, s, m, args, below, meth, c, H0, A, Q, nL0, G, ad0, n0⟩ := C
  obtain ⟨hx, hb, hml, hnl, hown, hts, hKK, hH0, hA, hlk, hrt, hR, hQ, hxt⟩ := hC
  intro ad H locs ls hW hAa hag hn hvl hvs hS hl
  exact lv_bipush hx hb hdg hv (kk ad H locs ls hW hAa hag hn hvl (vs_c Vok_int hvs) hS hl)
theorem J_sipush {C : JC} {x : Bool} {cc : ByteArray} {nL : Nat} {rm : Room} {rt : Option FieldType} {own : String} {res : Res} {ce sl : Nat} {M : Mem} {pc : Nat} {lv : List (Nat × Value)} {st : List Value} {n : Int} {v : Int32} (hC : Ok C x cc nL rm rt own res) (hdg : decode cc pc = .ok (.sipush n, 3)) (hv : (Int16.ofInt n).toInt32 = v)
    (kk : J C ce sl M (pc + 3) lv (.int v :: st)) : J C ce sl M pc lv (st) := by
  obtain ⟨p, l, e, R, s, m, args, below, meth, c, H0, A, Q, nL0, G, ad0, n0⟩ := C
  obtain ⟨hx, hb, hml, hnl, hown, hts, hKK, hH0, hA, hlk, hrt, hR, hQ, hxt⟩ := hC
  intro ad H locs ls hW hAa hag hn hvl hvs hS hl
  exact lv_sipush hx hb hdg hv (kk ad H locs ls hW hAa hag hn hvl (vs_c Vok_int hvs) hS hl)
theorem J_lconst {C : JC} {x : Bool} {cc : ByteArray} {nL : Nat} {rm : Room} {rt : Option FieldType} {own : String} {res : Res} {ce sl : Nat} {M : Mem} {pc : Nat} {lv : List (Nat × Value)} {st : List Value} {n : Fin 2} {v : Int64} (hC : Ok C x cc nL rm rt own res) (hdg : decode cc pc = .ok (.lconst n, 1)) (hv : Int64.ofNat (n : Nat) = v)
    (kk : J C ce sl M (pc + 1) lv (.long v :: st)) : J C ce sl M pc lv (st) := by
  obtain ⟨p, l, e, R, s, m, args, below, meth, c, H0, A, Q, nL0, G, ad0, n0⟩ := C
  obtain ⟨hx, hb, hml, hnl, hown, hts, hKK, hH0, hA, hlk, hrt, hR, hQ, hxt⟩ := hC
  intro ad H locs ls hW hAa hag hn hvl hvs hS hl
  exact lv_lconst hx hb hdg hv (kk ad H locs ls hW hAa hag hn hvl (vs_c Vok_long hvs) hS hl)
theorem J_dconst0 {C : JC} {x : Bool} {cc : ByteArray} {nL : Nat} {rm : Room} {rt : Option FieldType} {own : String} {res : Res} {ce sl : Nat} {M : Mem} {pc : Nat} {lv : List (Nat × Value)} {st : List Value}  (hC : Ok C x cc nL rm rt own res) (hdg : decode cc pc = .ok (.dconst 0, 1))
    (kk : J C ce sl M (pc + 1) lv (.double FP.dconst0 :: st)) : J C ce sl M pc lv (st) := by
  obtain ⟨p, l, e, R, s, m, args, below, meth, c, H0, A, Q, nL0, G, ad0, n0⟩ := C
  obtain ⟨hx, hb, hml, hnl, hown, hts, hKK, hH0, hA, hlk, hrt, hR, hQ, hxt⟩ := hC
  intro ad H locs ls hW hAa hag hn hvl hvs hS hl
  exact lv_dconst0 hx hb hdg (kk ad H locs ls hW hAa hag hn hvl (vs_c Vok_double hvs) hS hl)
theorem J_dconst1 {C : JC} {x : Bool} {cc : ByteArray} {nL : Nat} {rm : Room} {rt : Option FieldType} {own : String} {res : Res} {ce sl : Nat} {M : Mem} {pc : Nat} {lv : List (Nat × Value)} {st : List Value}  (hC : Ok C x cc nL rm rt own res) (hdg : decode cc pc = .ok (.dconst 1, 1))
    (kk : J C ce sl M (pc + 1) lv (.double FP.dconst1 :: st)) : J C ce sl M pc lv (st) := by
  obtain ⟨p, l, e, R, s, m, args, below, meth, c, H0, A, Q, nL0, G, ad0, n0⟩ := C
  obtain ⟨hx, hb, hml, hnl, hown, hts, hKK, hH0, hA, hlk, hrt, hR, hQ, hxt⟩ := hC
  intro ad H locs ls hW hAa hag hn hvl hvs hS hl
  exact lv_dconst1 hx hb hdg (kk ad H locs ls hW hAa hag hn hvl (vs_c Vok_double hvs) hS hl)
theorem J_ldc {C : JC} {x : Bool} {cc : ByteArray} {nL : Nat} {rm : Room} {rt : Option FieldType} {own : String} {res : Res} {ce sl : Nat} {M : Mem} {pc : Nat} {lv : List (Nat × Value)} {st : List Value} {index : Nat} {v : Int32} (hC : Ok C x cc nL rm rt own res) (hw : Cond.constant own index v ∈ BIG) (hdg : decode cc pc = .ok (.ldc index, 2))
    (kk : J C ce sl M (pc + 2) lv (.int v :: st)) : J C ce sl M pc lv (st) := by
  obtain ⟨p, l, e, R, s, m, args, below, meth, c, H0, A, Q, nL0, G, ad0, n0⟩ := C
  obtain ⟨hx, hb, hml, hnl, hown, hts, hKK, hH0, hA, hlk, hrt, hR, hQ, hxt⟩ := hC
  intro ad H locs ls hW hAa hag hn hvl hvs hS hl
  exact lv_ldc hx hb hown (hts _ hw) hdg (kk ad H locs ls hW hAa hag hn hvl (vs_c Vok_int hvs) hS hl)
theorem J_ldc2 {C : JC} {x : Bool} {cc : ByteArray} {nL : Nat} {rm : Room} {rt : Option FieldType} {own : String} {res : Res} {ce sl : Nat} {M : Mem} {pc : Nat} {lv : List (Nat × Value)} {st : List Value} {index : Nat} {v : Int64} (hC : Ok C x cc nL rm rt own res) (hw : Cond.constantLong own index v ∈ BIG) (hdg : decode cc pc = .ok (.ldc2_w index, 3))
    (kk : J C ce sl M (pc + 3) lv (.long v :: st)) : J C ce sl M pc lv (st) := by
  obtain ⟨p, l, e, R, s, m, args, below, meth, c, H0, A, Q, nL0, G, ad0, n0⟩ := C
  obtain ⟨hx, hb, hml, hnl, hown, hts, hKK, hH0, hA, hlk, hrt, hR, hQ, hxt⟩ := hC
  intro ad H locs ls hW hAa hag hn hvl hvs hS hl
  exact lv_ldc2 hx hb hown (hts _ hw) hdg (kk ad H locs ls hW hAa hag hn hvl (vs_c Vok_long hvs) hS hl)
theorem J_ldc2d {C : JC} {x : Bool} {cc : ByteArray} {nL : Nat} {rm : Room} {rt : Option FieldType} {own : String} {res : Res} {ce sl : Nat} {M : Mem} {pc : Nat} {lv : List (Nat × Value)} {st : List Value} {index : Nat} {v : UInt64} (hC : Ok C x cc nL rm rt own res) (hw : Cond.constantDouble own index v ∈ BIG) (hdg : decode cc pc = .ok (.ldc2_w index, 3))
    (kk : J C ce sl M (pc + 3) lv (.double v :: st)) : J C ce sl M pc lv (st) := by
  obtain ⟨p, l, e, R, s, m, args, below, meth, c, H0, A, Q, nL0, G, ad0, n0⟩ := C
  obtain ⟨hx, hb, hml, hnl, hown, hts, hKK, hH0, hA, hlk, hrt, hR, hQ, hxt⟩ := hC
  intro ad H locs ls hW hAa hag hn hvl hvs hS hl
  exact lv_ldc2d hx hb hown (hts _ hw) hdg (kk ad H locs ls hW hAa hag hn hvl (vs_c Vok_double hvs) hS hl)
theorem J_iload_n {C : JC} {x : Bool} {cc : ByteArray} {nL : Nat} {rm : Room} {rt : Option FieldType} {own : String} {res : Res} {ce sl : Nat} {M : Mem} {pc : Nat} {lv : List (Nat × Value)} {st : List Value} {k : Fin 4} {j : Nat} {v : Int32} (hC : Ok C x cc nL rm rt own res) (hdg : decode cc pc = .ok (.iload_n k, 1)) (hlv : lv[j]? = some ((k : Nat), .int v))
    (kk : J C ce sl M (pc + 1) lv (.int v :: st)) : J C ce sl M pc lv (st) := by
  obtain ⟨p, l, e, R, s, m, args, below, meth, c, H0, A, Q, nL0, G, ad0, n0⟩ := C
  obtain ⟨hx, hb, hml, hnl, hown, hts, hKK, hH0, hA, hlk, hrt, hR, hQ, hxt⟩ := hC
  intro ad H locs ls hW hAa hag hn hvl hvs hS hl
  exact lv_iload_n hx hb hdg rfl (lv_at hl j (mp_at hlv)) (kk ad H locs ls hW hAa hag hn hvl (vs_c Vok_int hvs) hS hl)
theorem J_iload {C : JC} {x : Bool} {cc : ByteArray} {nL : Nat} {rm : Room} {rt : Option FieldType} {own : String} {res : Res} {ce sl : Nat} {M : Mem} {pc : Nat} {lv : List (Nat × Value)} {st : List Value} {i j : Nat} {v : Int32} (hC : Ok C x cc nL rm rt own res) (hdg : decode cc pc = .ok (.iload i, 2)) (hlv : lv[j]? = some (i, .int v))
    (kk : J C ce sl M (pc + 2) lv (.int v :: st)) : J C ce sl M pc lv (st) := by
  obtain ⟨p, l, e, R, s, m, args, below, meth, c, H0, A, Q, nL0, G, ad0, n0⟩ := C
  obtain ⟨hx, hb, hml, hnl, hown, hts, hKK, hH0, hA, hlk, hrt, hR, hQ, hxt⟩ := hC
  intro ad H locs ls hW hAa hag hn hvl hvs hS hl
  exact lv_iload hx hb hdg (lv_at hl j (mp_at hlv)) (kk ad H locs ls hW hAa hag hn hvl (vs_c Vok_int hvs) hS hl)
theorem J_lload_n {C : JC} {x : Bool} {cc : ByteArray} {nL : Nat} {rm : Room} {rt : Option FieldType} {own : String} {res : Res} {ce sl : Nat} {M : Mem} {pc : Nat} {lv : List (Nat × Value)} {st : List Value} {k : Fin 4} {j : Nat} {v : Int64} (hC : Ok C x cc nL rm rt own res) (hdg : decode cc pc = .ok (.lload_n k, 1)) (hlv : lv[j]? = some ((k : Nat), .long v))
    (kk : J C ce sl M (pc + 1) lv (.long v :: st)) : J C ce sl M pc lv (st) := by
  obtain ⟨p, l, e, R, s, m, args, below, meth, c, H0, A, Q, nL0, G, ad0, n0⟩ := C
  obtain ⟨hx, hb, hml, hnl, hown, hts, hKK, hH0, hA, hlk, hrt, hR, hQ, hxt⟩ := hC
  intro ad H locs ls hW hAa hag hn hvl hvs hS hl
  exact lv_lload_n hx hb hdg rfl (lv_at hl j (mp_at hlv)) (kk ad H locs ls hW hAa hag hn hvl (vs_c Vok_long hvs) hS hl)
theorem J_lload {C : JC} {x : Bool} {cc : ByteArray} {nL : Nat} {rm : Room} {rt : Option FieldType} {own : String} {res : Res} {ce sl : Nat} {M : Mem} {pc : Nat} {lv : List (Nat × Value)} {st : List Value} {i j : Nat} {v : Int64} (hC : Ok C x cc nL rm rt own res) (hdg : decode cc pc = .ok (.lload i, 2)) (hlv : lv[j]? = some (i, .long v))
    (kk : J C ce sl M (pc + 2) lv (.long v :: st)) : J C ce sl M pc lv (st) := by
  obtain ⟨p, l, e, R, s, m, args, below, meth, c, H0, A, Q, nL0, G, ad0, n0⟩ := C
  obtain ⟨hx, hb, hml, hnl, hown, hts, hKK, hH0, hA, hlk, hrt, hR, hQ, hxt⟩ := hC
  intro ad H locs ls hW hAa hag hn hvl hvs hS hl
  exact lv_lload hx hb hdg (lv_at hl j (mp_at hlv)) (kk ad H locs ls hW hAa hag hn hvl (vs_c Vok_long hvs) hS hl)
theorem J_dload_n {C : JC} {x : Bool} {cc : ByteArray} {nL : Nat} {rm : Room} {rt : Option FieldType} {own : String} {res : Res} {ce sl : Nat} {M : Mem} {pc : Nat} {lv : List (Nat × Value)} {st : List Value} {k : Fin 4} {j : Nat} {v : UInt64} (hC : Ok C x cc nL rm rt own res) (hdg : decode cc pc = .ok (.dload_n k, 1)) (hlv : lv[j]? = some ((k : Nat), .double v))
    (kk : J C ce sl M (pc + 1) lv (.double v :: st)) : J C ce sl M pc lv (st) := by
  obtain ⟨p, l, e, R, s, m, args, below, meth, c, H0, A, Q, nL0, G, ad0, n0⟩ := C
  obtain ⟨hx, hb, hml, hnl, hown, hts, hKK, hH0, hA, hlk, hrt, hR, hQ, hxt⟩ := hC
  intro ad H locs ls hW hAa hag hn hvl hvs hS hl
  exact lv_dload_n hx hb hdg rfl (lv_at hl j (mp_at hlv)) (kk ad H locs ls hW hAa hag hn hvl (vs_c Vok_double hvs) hS hl)
theorem J_dload {C : JC} {x : Bool} {cc : ByteArray} {nL : Nat} {rm : Room} {rt : Option FieldType} {own : String} {res : Res} {ce sl : Nat} {M : Mem} {pc : Nat} {lv : List (Nat × Value)} {st : List Value} {i j : Nat} {v : UInt64} (hC : Ok C x cc nL rm rt own res) (hdg : decode cc pc = .ok (.dload i, 2)) (hlv : lv[j]? = some (i, .double v))
    (kk : J C ce sl M (pc + 2) lv (.double v :: st)) : J C ce sl M pc lv (st) := by
  obtain ⟨p, l, e, R, s, m, args, below, meth, c, H0, A, Q, nL0, G, ad0, n0⟩ := C
  obtain ⟨hx, hb, hml, hnl, hown, hts, hKK, hH0, hA, hlk, hrt, hR, hQ, hxt⟩ := hC
  intro ad H locs ls hW hAa hag hn hvl hvs hS hl
  exact lv_dload hx hb hdg (lv_at hl j (mp_at hlv)) (kk ad H locs ls hW hAa hag hn hvl (vs_c Vok_double hvs) hS hl)
theorem J_aload_n {C : JC} {x : Bool} {cc : ByteArray} {nL : Nat} {rm : Room} {rt : Option FieldType} {own : String} {res : Res} {ce sl : Nat} {M : Mem} {pc : Nat} {lv : List (Nat × Value)} {st : List Value} {k : Fin 4} {j : Nat} {r : Option Nat} (hC : Ok C x cc nL rm rt own res) (hdg : decode cc pc = .ok (.aload_n k, 1)) (hlv : lv[j]? = some ((k : Nat), va_rf r))
    (kk : J C ce sl M (pc + 1) lv (va_rf r :: st)) : J C ce sl M pc lv (st) := by
  obtain ⟨p, l, e, R, s, m, args, below, meth, c, H0, A, Q, nL0, G, ad0, n0⟩ := C
  obtain ⟨hx, hb, hml, hnl, hown, hts, hKK, hH0, hA, hlk, hrt, hR, hQ, hxt⟩ := hC
  intro ad H locs ls hW hAa hag hn hvl hvs hS hl
  have kk := (kk ad H locs ls hW hAa hag hn hvl (vs_c (vl_at hvl hlv) hvs) hS hl)
  have h9 := lv_at hl j (mp_at hlv)
  cases r with
  | none => exact lv_aload_nN hx hb hdg rfl h9 kk
  | some q => exact lv_aload_n hx hb hdg rfl h9 kk
theorem J_aload {C : JC} {x : Bool} {cc : ByteArray} {nL : Nat} {rm : Room} {rt : Option FieldType} {own : String} {res : Res} {ce sl : Nat} {M : Mem} {pc : Nat} {lv : List (Nat × Value)} {st : List Value} {i j : Nat} {r : Option Nat} (hC : Ok C x cc nL rm rt own res) (hdg : decode cc pc = .ok (.aload i, 2)) (hlv : lv[j]? = some (i, va_rf r))
    (kk : J C ce sl M (pc + 2) lv (va_rf r :: st)) : J C ce sl M pc lv (st) := by
  obtain ⟨p, l, e, R, s, m, args, below, meth, c, H0, A, Q, nL0, G, ad0, n0⟩ := C
  obtain ⟨hx, hb, hml, hnl, hown, hts, hKK, hH0, hA, hlk, hrt, hR, hQ, hxt⟩ := hC
  intro ad H locs ls hW hAa hag hn hvl hvs hS hl
  have kk := (kk ad H locs ls hW hAa hag hn hvl (vs_c (vl_at hvl hlv) hvs) hS hl)
  have h9 := lv_at hl j (mp_at hlv)
  cases r with
  | none => exact lv_aloadN hx hb hdg h9 kk
  | some q => exact lv_aload hx hb hdg h9 kk
theorem J_istore_n {C : JC} {x : Bool} {cc : ByteArray} {nL : Nat} {rm : Room} {rt : Option FieldType} {own : String} {res : Res} {ce sl : Nat} {M : Mem} {pc : Nat} {lv : List (Nat × Value)} {st : List Value} {k : Fin 4} {i : Nat} {v : Int32} (hk : (k : Nat) = i) {lv' : List (Nat × Value)} (hC : Ok C x cc nL rm rt own res) (hdg : decode cc pc = .ok (.istore_n k, 1)) (hi : i < nL) (hlv : (i, Value.int v) :: lv.filter (fun q => !(q.1 == i) && !(q.1 + 1 == i && q.2.category == 2)) = lv')
    (kk : J C ce sl M (pc + 1) lv' st) : J C ce sl M pc lv (Value.int v :: st) := by
  obtain ⟨p, l, e, R, s, m, args, below, meth, c, H0, A, Q, nL0, G, ad0, n0⟩ := C
  obtain ⟨hx, hb, hml, hnl, hown, hts, hKK, hH0, hA, hlk, hrt, hR, hQ, hxt⟩ := hC
  intro ad H locs ls hW hAa hag hn hvl hvs hS hl
  subst hnl
  have kk := fun ls hl => kk ad H locs ls hW hAa hag hn (vl_st hlv (vs_h hvs) hvl) (vs_t hvs) hS hl
  have h9 := mp_st1 (ad := ad) hlv
  exact lv_istore_n hx hb hdg hk hl hi h9 kk
theorem J_istore {C : JC} {x : Bool} {cc : ByteArray} {nL : Nat} {rm : Room} {rt : Option FieldType} {own : String} {res : Res} {ce sl : Nat} {M : Mem} {pc : Nat} {lv : List (Nat × Value)} {st : List Value} {i : Nat} {v : Int32} {lv' : List (Nat × Value)} (hC : Ok C x cc nL rm rt own res) (hdg : decode cc pc = .ok (.istore i, 2)) (hi : i < nL) (hlv : (i, Value.int v) :: lv.filter (fun q => !(q.1 == i) && !(q.1 + 1 == i && q.2.category == 2)) = lv')
    (kk : J C ce sl M (pc + 2) lv' st) : J C ce sl M pc lv (Value.int v :: st) := by
  obtain ⟨p, l, e, R, s, m, args, below, meth, c, H0, A, Q, nL0, G, ad0, n0⟩ := C
  obtain ⟨hx, hb, hml, hnl, hown, hts, hKK, hH0, hA, hlk, hrt, hR, hQ, hxt⟩ := hC
  intro ad H locs ls hW hAa hag hn hvl hvs hS hl
  subst hnl
  have kk := fun ls hl => kk ad H locs ls hW hAa hag hn (vl_st hlv (vs_h hvs) hvl) (vs_t hvs) hS hl
  have h9 := mp_st1 (ad := ad) hlv
  exact lv_istore hx hb hdg hl hi h9 kk
theorem J_lstore_n {C : JC} {x : Bool} {cc : ByteArray} {nL : Nat} {rm : Room} {rt : Option FieldType} {own : String} {res : Res} {ce sl : Nat} {M : Mem} {pc : Nat} {lv : List (Nat × Value)} {st : List Value} {k : Fin 4} {i : Nat} {v : Int64} (hk : (k : Nat) = i) {lv' : List (Nat × Value)} (hC : Ok C x cc nL rm rt own res) (hdg : decode cc pc = .ok (.lstore_n k, 1)) (hi : i + 1 < nL) (hlv : (i, Value.long v) :: lv.filter (fun q => !(q.1 == i) && (!(q.1 == i + 1) && !(q.1 + 1 == i && q.2.category == 2))) = lv')
    (kk : J C ce sl M (pc + 1) lv' st) : J C ce sl M pc lv (Value.long v :: st) := by
  obtain ⟨p, l, e, R, s, m, args, below, meth, c, H0, A, Q, nL0, G, ad0, n0⟩ := C
  obtain ⟨hx, hb, hml, hnl, hown, hts, hKK, hH0, hA, hlk, hrt, hR, hQ, hxt⟩ := hC
  intro ad H locs ls hW hAa hag hn hvl hvs hS hl
  subst hnl
  have kk := fun ls hl => kk ad H locs ls hW hAa hag hn (vl_st hlv (vs_h hvs) hvl) (vs_t hvs) hS hl
  have h9 := mp_st2 (ad := ad) hlv
  exact lv_lstore_n hx hb hdg hk hl hi h9 kk
theorem J_lstore {C : JC} {x : Bool} {cc : ByteArray} {nL : Nat} {rm : Room} {rt : Option FieldType} {own : String} {res : Res} {ce sl : Nat} {M : Mem} {pc : Nat} {lv : List (Nat × Value)} {st : List Value} {i : Nat} {v : Int64} {lv' : List (Nat × Value)} (hC : Ok C x cc nL rm rt own res) (hdg : decode cc pc = .ok (.lstore i, 2)) (hi : i + 1 < nL) (hlv : (i, Value.long v) :: lv.filter (fun q => !(q.1 == i) && (!(q.1 == i + 1) && !(q.1 + 1 == i && q.2.category == 2))) = lv')
    (kk : J C ce sl M (pc + 2) lv' st) : J C ce sl M pc lv (Value.long v :: st) := by
  obtain ⟨p, l, e, R, s, m, args, below, meth, c, H0, A, Q, nL0, G, ad0, n0⟩ := C
  obtain ⟨hx, hb, hml, hnl, hown, hts, hKK, hH0, hA, hlk, hrt, hR, hQ, hxt⟩ := hC
  intro ad H locs ls hW hAa hag hn hvl hvs hS hl
  subst hnl
  have kk := fun ls hl => kk ad H locs ls hW hAa hag hn (vl_st hlv (vs_h hvs) hvl) (vs_t hvs) hS hl
  have h9 := mp_st2 (ad := ad) hlv
  exact lv_lstore hx hb hdg hl hi h9 kk
theorem J_dstore_n {C : JC} {x : Bool} {cc : ByteArray} {nL : Nat} {rm : Room} {rt : Option FieldType} {own : String} {res : Res} {ce sl : Nat} {M : Mem} {pc : Nat} {lv : List (Nat × Value)} {st : List Value} {k : Fin 4} {i : Nat} {v : UInt64} (hk : (k : Nat) = i) {lv' : List (Nat × Value)} (hC : Ok C x cc nL rm rt own res) (hdg : decode cc pc = .ok (.dstore_n k, 1)) (hi : i + 1 < nL) (hlv : (i, Value.double v) :: lv.filter (fun q => !(q.1 == i) && (!(q.1 == i + 1) && !(q.1 + 1 == i && q.2.category == 2))) = lv')
    (kk : J C ce sl M (pc + 1) lv' st) : J C ce sl M pc lv (Value.double v :: st) := by
  obtain ⟨p, l, e, R, s, m, args, below, meth, c, H0, A, Q, nL0, G, ad0, n0⟩ := C
  obtain ⟨hx, hb, hml, hnl, hown, hts, hKK, hH0, hA, hlk, hrt, hR, hQ, hxt⟩ := hC
  intro ad H locs ls hW hAa hag hn hvl hvs hS hl
  subst hnl
  have kk := fun ls hl => kk ad H locs ls hW hAa hag hn (vl_st hlv (vs_h hvs) hvl) (vs_t hvs) hS hl
  have h9 := mp_st2 (ad := ad) hlv
  exact lv_dstore_n hx hb hdg hk hl hi h9 kk
theorem J_dstore {C : JC} {x : Bool} {cc : ByteArray} {nL : Nat} {rm : Room} {rt : Option FieldType} {own : String} {res : Res} {ce sl : Nat} {M : Mem} {pc : Nat} {lv : List (Nat × Value)} {st : List Value} {i : Nat} {v : UInt64} {lv' : List (Nat × Value)} (hC : Ok C x cc nL rm rt own res) (hdg : decode cc pc = .ok (.dstore i, 2)) (hi : i + 1 < nL) (hlv : (i, Value.double v) :: lv.filter (fun q => !(q.1 == i) && (!(q.1 == i + 1) && !(q.1 + 1 == i && q.2.category == 2))) = lv')
    (kk : J C ce sl M (pc + 2) lv' st) : J C ce sl M pc lv (Value.double v :: st) := by
  obtain ⟨p, l, e, R, s, m, args, below, meth, c, H0, A, Q, nL0, G, ad0, n0⟩ := C
  obtain ⟨hx, hb, hml, hnl, hown, hts, hKK, hH0, hA, hlk, hrt, hR, hQ, hxt⟩ := hC
  intro ad H locs ls hW hAa hag hn hvl hvs hS hl
  subst hnl
  have kk := fun ls hl => kk ad H locs ls hW hAa hag hn (vl_st hlv (vs_h hvs) hvl) (vs_t hvs) hS hl
  have h9 := mp_st2 (ad := ad) hlv
  exact lv_dstore hx hb hdg hl hi h9 kk
theorem J_astore_n {C : JC} {x : Bool} {cc : ByteArray} {nL : Nat} {rm : Room} {rt : Option FieldType} {own : String} {res : Res} {ce sl : Nat} {M : Mem} {pc : Nat} {lv : List (Nat × Value)} {st : List Value} {k : Fin 4} {i : Nat} {r : Option Nat} (hk : (k : Nat) = i) {lv' : List (Nat × Value)} (hC : Ok C x cc nL rm rt own res) (hdg : decode cc pc = .ok (.astore_n k, 1)) (hi : i < nL) (hlv : (i, va_rf r) :: lv.filter (fun q => !(q.1 == i) && !(q.1 + 1 == i && q.2.category == 2)) = lv')
    (kk : J C ce sl M (pc + 1) lv' st) : J C ce sl M pc lv (va_rf r :: st) := by
  obtain ⟨p, l, e, R, s, m, args, below, meth, c, H0, A, Q, nL0, G, ad0, n0⟩ := C
  obtain ⟨hx, hb, hml, hnl, hown, hts, hKK, hH0, hA, hlk, hrt, hR, hQ, hxt⟩ := hC
  intro ad H locs ls hW hAa hag hn hvl hvs hS hl
  subst hnl
  have kk := fun ls hl => kk ad H locs ls hW hAa hag hn (vl_st hlv (vs_h hvs) hvl) (vs_t hvs) hS hl
  have h9 := mp_st1 (ad := ad) hlv
  cases r with
  | none => exact lv_astore_nN hx hb hdg hk hl hi h9 kk
  | some q => exact lv_astore_n hx hb hdg hk hl hi h9 kk
theorem J_astore {C : JC} {x : Bool} {cc : ByteArray} {nL : Nat} {rm : Room} {rt : Option FieldType} {own : String} {res : Res} {ce sl : Nat} {M : Mem} {pc : Nat} {lv : List (Nat × Value)} {st : List Value} {i : Nat} {r : Option Nat} {lv' : List (Nat × Value)} (hC : Ok C x cc nL rm rt own res) (hdg : decode cc pc = .ok (.astore i, 2)) (hi : i < nL) (hlv : (i, va_rf r) :: lv.filter (fun q => !(q.1 == i) && !(q.1 + 1 == i && q.2.category == 2)) = lv')
    (kk : J C ce sl M (pc + 2) lv' st) : J C ce sl M pc lv (va_rf r :: st) := by
  obtain ⟨p, l, e, R, s, m, args, below, meth, c, H0, A, Q, nL0, G, ad0, n0⟩ := C
  obtain ⟨hx, hb, hml, hnl, hown, hts, hKK, hH0, hA, hlk, hrt, hR, hQ, hxt⟩ := hC
  intro ad H locs ls hW hAa hag hn hvl hvs hS hl
  subst hnl
  have kk := fun ls hl => kk ad H locs ls hW hAa hag hn (vl_st hlv (vs_h hvs) hvl) (vs_t hvs) hS hl
  have h9 := mp_st1 (ad := ad) hlv
  cases r with
  | none => exact lv_astoreN hx hb hdg hl hi h9 kk
  | some q => exact lv_astore hx hb hdg hl hi h9 kk
theorem J_iinc {C : JC} {x : Bool} {cc : ByteArray} {nL : Nat} {rm : Room} {rt : Option FieldType} {own : String} {res : Res} {ce sl : Nat} {M : Mem} {pc : Nat} {lv : List (Nat × Value)} {st : List Value} {i j : Nat} {n : Int} {v w : Int32} {lv' : List (Nat × Value)} (hC : Ok C x cc nL rm rt own res) (hdg : decode cc pc = .ok (.iinc i n, 3)) (hi : i < nL) (hj : lv[j]? = some (i, .int v)) (hw : v + Int32.ofInt n = w) (hlv : (i, Value.int w) :: lv.filter (fun q => !(q.1 == i) && !(q.1 + 1 == i && q.2.category == 2)) = lv')
    (kk : J C ce sl M (pc + 3) lv' st) : J C ce sl M pc lv st := by
  obtain ⟨p, l, e, R, s, m, args, below, meth, c, H0, A, Q, nL0, G, ad0, n0⟩ := C
  obtain ⟨hx, hb, hml, hnl, hown, hts, hKK, hH0, hA, hlk, hrt, hR, hQ, hxt⟩ := hC
  intro ad H locs ls hW hAa hag hn hvl hvs hS hl
  subst hnl
  have h9 := mp_st1 (ad := ad) hlv
  exact lv_iinc hx hb hdg hl (mp_at hj) hw hi h9 (fun ls hl => kk ad H locs ls hW hAa hag hn (vl_st hlv Vok_int hvl) hvs hS hl)
theorem J_iadd {C : JC} {x : Bool} {cc : ByteArray} {nL : Nat} {rm : Room} {rt : Option FieldType} {own : String} {res : Res} {ce sl : Nat} {M : Mem} {pc : Nat} {lv : List (Nat × Value)} {st : List Value} {a b : Int32} (hC : Ok C x cc nL rm rt own res) (hdg : decode cc pc = .ok (.iadd, 1))
    (kk : J C ce sl M (pc + 1) lv (.int (a + b) :: st)) : J C ce sl M pc lv (.int b :: .int a :: st) := by
  obtain ⟨p, l, e, R, s, m, args, below, meth, c, H0, A, Q, nL0, G, ad0, n0⟩ := C
  obtain ⟨hx, hb, hml, hnl, hown, hts, hKK, hH0, hA, hlk, hrt, hR, hQ, hxt⟩ := hC
  intro ad H locs ls hW hAa hag hn hvl hvs hS hl
  exact lv_iadd hx hb hdg (kk ad H locs ls hW hAa hag hn hvl (vs_c Vok_int (vs_t (vs_t hvs))) hS hl)
theorem J_isub {C : JC} {x : Bool} {cc : ByteArray} {nL : Nat} {rm : Room} {rt : Option FieldType} {own : String} {res : Res} {ce sl : Nat} {M : Mem} {pc : Nat} {lv : List (Nat × Value)} {st : List Value} {a b : Int32} (hC : Ok C x cc nL rm rt own res) (hdg : decode cc pc = .ok (.isub, 1))
    (kk : J C ce sl M (pc + 1) lv (.int (a - b) :: st)) : J C ce sl M pc lv (.int b :: .int a :: st) := by
  obtain ⟨p, l, e, R, s, m, args, below, meth, c, H0, A, Q, nL0, G, ad0, n0⟩ := C
  obtain ⟨hx, hb, hml, hnl, hown, hts, hKK, hH0, hA, hlk, hrt, hR, hQ, hxt⟩ := hC
  intro ad H locs ls hW hAa hag hn hvl hvs hS hl
  exact lv_isub hx hb hdg (kk ad H locs ls hW hAa hag hn hvl (vs_c Vok_int (vs_t (vs_t hvs))) hS hl)
theorem J_imul {C : JC} {x : Bool} {cc : ByteArray} {nL : Nat} {rm : Room} {rt : Option FieldType} {own : String} {res : Res} {ce sl : Nat} {M : Mem} {pc : Nat} {lv : List (Nat × Value)} {st : List Value} {a b : Int32} (hC : Ok C x cc nL rm rt own res) (hdg : decode cc pc = .ok (.imul, 1))
    (kk : J C ce sl M (pc + 1) lv (.int (a * b) :: st)) : J C ce sl M pc lv (.int b :: .int a :: st) := by
  obtain ⟨p, l, e, R, s, m, args, below, meth, c, H0, A, Q, nL0, G, ad0, n0⟩ := C
  obtain ⟨hx, hb, hml, hnl, hown, hts, hKK, hH0, hA, hlk, hrt, hR, hQ, hxt⟩ := hC
  intro ad H locs ls hW hAa hag hn hvl hvs hS hl
  exact lv_imul hx hb hdg (kk ad H locs ls hW hAa hag hn hvl (vs_c Vok_int (vs_t (vs_t hvs))) hS hl)
theorem J_iand {C : JC} {x : Bool} {cc : ByteArray} {nL : Nat} {rm : Room} {rt : Option FieldType} {own : String} {res : Res} {ce sl : Nat} {M : Mem} {pc : Nat} {lv : List (Nat × Value)} {st : List Value} {a b : Int32} (hC : Ok C x cc nL rm rt own res) (hdg : decode cc pc = .ok (.iand, 1))
    (kk : J C ce sl M (pc + 1) lv (.int (a &&& b) :: st)) : J C ce sl M pc lv (.int b :: .int a :: st) := by
  obtain ⟨p, l, e, R, s, m, args, below, meth, c, H0, A, Q, nL0, G, ad0, n0⟩ := C
  obtain ⟨hx, hb, hml, hnl, hown, hts, hKK, hH0, hA, hlk, hrt, hR, hQ, hxt⟩ := hC
  intro ad H locs ls hW hAa hag hn hvl hvs hS hl
  exact lv_iand hx hb hdg (kk ad H locs ls hW hAa hag hn hvl (vs_c Vok_int (vs_t (vs_t hvs))) hS hl)
theorem J_ior {C : JC} {x : Bool} {cc : ByteArray} {nL : Nat} {rm : Room} {rt : Option FieldType} {own : String} {res : Res} {ce sl : Nat} {M : Mem} {pc : Nat} {lv : List (Nat × Value)} {st : List Value} {a b : Int32} (hC : Ok C x cc nL rm rt own res) (hdg : decode cc pc = .ok (.ior, 1))
    (kk : J C ce sl M (pc + 1) lv (.int (a ||| b) :: st)) : J C ce sl M pc lv (.int b :: .int a :: st) := by
  obtain ⟨p, l, e, R, s, m, args, below, meth, c, H0, A, Q, nL0, G, ad0, n0⟩ := C
  obtain ⟨hx, hb, hml, hnl, hown, hts, hKK, hH0, hA, hlk, hrt, hR, hQ, hxt⟩ := hC
  intro ad H locs ls hW hAa hag hn hvl hvs hS hl
  exact lv_ior hx hb hdg (kk ad H locs ls hW hAa hag hn hvl (vs_c Vok_int (vs_t (vs_t hvs))) hS hl)
theorem J_ladd {C : JC} {x : Bool} {cc : ByteArray} {nL : Nat} {rm : Room} {rt : Option FieldType} {own : String} {res : Res} {ce sl : Nat} {M : Mem} {pc : Nat} {lv : List (Nat × Value)} {st : List Value} {a b : Int64} (hC : Ok C x cc nL rm rt own res) (hdg : decode cc pc = .ok (.ladd, 1))
    (kk : J C ce sl M (pc + 1) lv (.long (a + b) :: st)) : J C ce sl M pc lv (.long b :: .long a :: st) := by
  obtain ⟨p, l, e, R, s, m, args, below, meth, c, H0, A, Q, nL0, G, ad0, n0⟩ := C
  obtain ⟨hx, hb, hml, hnl, hown, hts, hKK, hH0, hA, hlk, hrt, hR, hQ, hxt⟩ := hC
  intro ad H locs ls hW hAa hag hn hvl hvs hS hl
  exact lv_ladd hx hb hdg (kk ad H locs ls hW hAa hag hn hvl (vs_c Vok_long (vs_t (vs_t hvs))) hS hl)
theorem J_lsub {C : JC} {x : Bool} {cc : ByteArray} {nL : Nat} {rm : Room} {rt : Option FieldType} {own : String} {res : Res} {ce sl : Nat} {M : Mem} {pc : Nat} {lv : List (Nat × Value)} {st : List Value} {a b : Int64} (hC : Ok C x cc nL rm rt own res) (hdg : decode cc pc = .ok (.lsub, 1))
    (kk : J C ce sl M (pc + 1) lv (.long (a - b) :: st)) : J C ce sl M pc lv (.long b :: .long a :: st) := by
  obtain ⟨p, l, e, R, s, m, args, below, meth, c, H0, A, Q, nL0, G, ad0, n0⟩ := C
  obtain ⟨hx, hb, hml, hnl, hown, hts, hKK, hH0, hA, hlk, hrt, hR, hQ, hxt⟩ := hC
  intro ad H locs ls hW hAa hag hn hvl hvs hS hl
  exact lv_lsub hx hb hdg (kk ad H locs ls hW hAa hag hn hvl (vs_c Vok_long (vs_t (vs_t hvs))) hS hl)
theorem J_lmul {C : JC} {x : Bool} {cc : ByteArray} {nL : Nat} {rm : Room} {rt : Option FieldType} {own : String} {res : Res} {ce sl : Nat} {M : Mem} {pc : Nat} {lv : List (Nat × Value)} {st : List Value} {a b : Int64} (hC : Ok C x cc nL rm rt own res) (hdg : decode cc pc = .ok (.lmul, 1))
    (kk : J C ce sl M (pc + 1) lv (.long (a * b) :: st)) : J C ce sl M pc lv (.long b :: .long a :: st) := by
  obtain ⟨p, l, e, R, s, m, args, below, meth, c, H0, A, Q, nL0, G, ad0, n0⟩ := C
  obtain ⟨hx, hb, hml, hnl, hown, hts, hKK, hH0, hA, hlk, hrt, hR, hQ, hxt⟩ := hC
  intro ad H locs ls hW hAa hag hn hvl hvs hS hl
  exact lv_lmul hx hb hdg (kk ad H locs ls hW hAa hag hn hvl (vs_c Vok_long (vs_t (vs_t hvs))) hS hl)
theorem J_idiv {C : JC} {x : Bool} {cc : ByteArray} {nL : Nat} {rm : Room} {rt : Option FieldType} {own : String} {res : Res} {ce sl : Nat} {M : Mem} {pc : Nat} {lv : List (Nat × Value)} {st : List Value} {a b : Int32} (hC : Ok C x cc nL rm rt own res) (hdg : decode cc pc = .ok (.idiv, 1)) (h0 : ¬ b = 0)
    (kk : J C ce sl M (pc + 1) lv (.int (a / b) :: st)) : J C ce sl M pc lv (.int b :: .int a :: st) := by
  obtain ⟨p, l, e, R, s, m, args, below, meth, c, H0, A, Q, nL0, G, ad0, n0⟩ := C
  obtain ⟨hx, hb, hml, hnl, hown, hts, hKK, hH0, hA, hlk, hrt, hR, hQ, hxt⟩ := hC
  intro ad H locs ls hW hAa hag hn hvl hvs hS hl
  exact lv_idiv hx hb hdg h0 (kk ad H locs ls hW hAa hag hn hvl (vs_c Vok_int (vs_t (vs_t hvs))) hS hl)
theorem J_irem {C : JC} {x : Bool} {cc : ByteArray} {nL : Nat} {rm : Room} {rt : Option FieldType} {own : String} {res : Res} {ce sl : Nat} {M : Mem} {pc : Nat} {lv : List (Nat × Value)} {st : List Value} {a b : Int32} (hC : Ok C x cc nL rm rt own res) (hdg : decode cc pc = .ok (.irem, 1)) (h0 : ¬ b = 0)
    (kk : J C ce sl M (pc + 1) lv (.int (a - a / b * b) :: st)) : J C ce sl M pc lv (.int b :: .int a :: st) := by
  obtain ⟨p, l, e, R, s, m, args, below, meth, c, H0, A, Q, nL0, G, ad0, n0⟩ := C
  obtain ⟨hx, hb, hml, hnl, hown, hts, hKK, hH0, hA, hlk, hrt, hR, hQ, hxt⟩ := hC
  intro ad H locs ls hW hAa hag hn hvl hvs hS hl
  exact lv_irem hx hb hdg h0 (kk ad H locs ls hW hAa hag hn hvl (vs_c Vok_int (vs_t (vs_t hvs))) hS hl)
theorem J_ineg {C : JC} {x : Bool} {cc : ByteArray} {nL : Nat} {rm : Room} {rt : Option FieldType} {own : String} {res : Res} {ce sl : Nat} {M : Mem} {pc : Nat} {lv : List (Nat × Value)} {st : List Value} {a : Int32} (hC : Ok C x cc nL rm rt own res) (hdg : decode cc pc = .ok (.ineg, 1))
    (kk : J C ce sl M (pc + 1) lv (.int (-a) :: st)) : J C ce sl M pc lv (.int a :: st) := by
  obtain ⟨p, l, e, R, s, m, args, below, meth, c, H0, A, Q, nL0, G, ad0, n0⟩ := C
  obtain ⟨hx, hb, hml, hnl, hown, hts, hKK, hH0, hA, hlk, hrt, hR, hQ, hxt⟩ := hC
  intro ad H locs ls hW hAa hag hn hvl hvs hS hl
  exact lv_ineg hx hb hdg (kk ad H locs ls hW hAa hag hn hvl (vs_c Vok_int (vs_t hvs)) hS hl)
theorem J_i2l {C : JC} {x : Bool} {cc : ByteArray} {nL : Nat} {rm : Room} {rt : Option FieldType} {own : String} {res : Res} {ce sl : Nat} {M : Mem} {pc : Nat} {lv : List (Nat × Value)} {st : List Value} {a : Int32} (hC : Ok C x cc nL rm rt own res) (hdg : decode cc pc = .ok (.i2l, 1))
    (kk : J C ce sl M (pc + 1) lv (.long a.toInt64 :: st)) : J C ce sl M pc lv (.int a :: st) := by
  obtain ⟨p, l, e, R, s, m, args, below, meth, c, H0, A, Q, nL0, G, ad0, n0⟩ := C
  obtain ⟨hx, hb, hml, hnl, hown, hts, hKK, hH0, hA, hlk, hrt, hR, hQ, hxt⟩ := hC
  intro ad H locs ls hW hAa hag hn hvl hvs hS hl
  exact lv_i2l hx hb hdg rfl (kk ad H locs ls hW hAa hag hn hvl (vs_c Vok_long (vs_t hvs)) hS hl)
theorem J_i2d {C : JC} {x : Bool} {cc : ByteArray} {nL : Nat} {rm : Room} {rt : Option FieldType} {own : String} {res : Res} {ce sl : Nat} {M : Mem} {pc : Nat} {lv : List (Nat × Value)} {st : List Value} {a : Int32} (hC : Ok C x cc nL rm rt own res) (hdg : decode cc pc = .ok (.i2d, 1))
    (kk : J C ce sl M (pc + 1) lv (.double (FP.i2d a) :: st)) : J C ce sl M pc lv (.int a :: st) := by
  obtain ⟨p, l, e, R, s, m, args, below, meth, c, H0, A, Q, nL0, G, ad0, n0⟩ := C
  obtain ⟨hx, hb, hml, hnl, hown, hts, hKK, hH0, hA, hlk, hrt, hR, hQ, hxt⟩ := hC
  intro ad H locs ls hW hAa hag hn hvl hvs hS hl
  exact lv_i2d hx hb hdg (kk ad H locs ls hW hAa hag hn hvl (vs_c Vok_double (vs_t hvs)) hS hl)
theorem J_d2l {C : JC} {x : Bool} {cc : ByteArray} {nL : Nat} {rm : Room} {rt : Option FieldType} {own : String} {res : Res} {ce sl : Nat} {M : Mem} {pc : Nat} {lv : List (Nat × Value)} {st : List Value} {a : UInt64} (hC : Ok C x cc nL rm rt own res) (hdg : decode cc pc = .ok (.d2l, 1))
    (kk : J C ce sl M (pc + 1) lv (.long (FP.d2l a) :: st)) : J C ce sl M pc lv (.double a :: st) := by
  obtain ⟨p, l, e, R, s, m, args, below, meth, c, H0, A, Q, nL0, G, ad0, n0⟩ := C
  obtain ⟨hx, hb, hml, hnl, hown, hts, hKK, hH0, hA, hlk, hrt, hR, hQ, hxt⟩ := hC
  intro ad H locs ls hW hAa hag hn hvl hvs hS hl
  exact lv_d2l hx hb hdg (kk ad H locs ls hW hAa hag hn hvl (vs_c Vok_long (vs_t hvs)) hS hl)
theorem J_lshl {C : JC} {x : Bool} {cc : ByteArray} {nL : Nat} {rm : Room} {rt : Option FieldType} {own : String} {res : Res} {ce sl : Nat} {M : Mem} {pc : Nat} {lv : List (Nat × Value)} {st : List Value} {a : Int64} {b : Int32} (hC : Ok C x cc nL rm rt own res) (hdg : decode cc pc = .ok (.lshl, 1))
    (kk : J C ce sl M (pc + 1) lv (.long (a <<< (b.toInt64 &&& 63)) :: st)) : J C ce sl M pc lv (.int b :: .long a :: st) := by
  obtain ⟨p, l, e, R, s, m, args, below, meth, c, H0, A, Q, nL0, G, ad0, n0⟩ := C
  obtain ⟨hx, hb, hml, hnl, hown, hts, hKK, hH0, hA, hlk, hrt, hR, hQ, hxt⟩ := hC
  intro ad H locs ls hW hAa hag hn hvl hvs hS hl
  exact lv_lshl hx hb hdg rfl (kk ad H locs ls hW hAa hag hn hvl (vs_c Vok_long (vs_t (vs_t hvs))) hS hl)
theorem J_lcmp {C : JC} {x : Bool} {cc : ByteArray} {nL : Nat} {rm : Room} {rt : Option FieldType} {own : String} {res : Res} {ce sl : Nat} {M : Mem} {pc : Nat} {lv : List (Nat × Value)} {st : List Value} {a b : Int64} (hC : Ok C x cc nL rm rt own res) (hdg : decode cc pc = .ok (.lcmp, 1))
    (kk : J C ce sl M (pc + 1) lv (.int (lg_cmp a b) :: st)) : J C ce sl M pc lv (.long b :: .long a :: st) := by
  obtain ⟨p, l, e, R, s, m, args, below, meth, c, H0, A, Q, nL0, G, ad0, n0⟩ := C
  obtain ⟨hx, hb, hml, hnl, hown, hts, hKK, hH0, hA, hlk, hrt, hR, hQ, hxt⟩ := hC
  intro ad H locs ls hW hAa hag hn hvl hvs hS hl
  exact W.lcmp hx hb hdg (kk ad H locs ls hW hAa hag hn hvl (vs_c Vok_int (vs_t (vs_t hvs))) hS hl)
theorem J_ddiv {C : JC} {x : Bool} {cc : ByteArray} {nL : Nat} {rm : Room} {rt : Option FieldType} {own : String} {res : Res} {ce sl : Nat} {M : Mem} {pc : Nat} {lv : List (Nat × Value)} {st : List Value} {a b : UInt64} (hC : Ok C x cc nL rm rt own res) (hdg : decode cc pc = .ok (.ddiv, 1)) (h0 : vf_n64 (FP.ddiv a b))
    (kk : J C ce sl M (pc + 1) lv (.double (FP.ddiv a b) :: st)) : J C ce sl M pc lv (.double b :: .double a :: st) := by
  obtain ⟨p, l, e, R, s, m, args, below, meth, c, H0, A, Q, nL0, G, ad0, n0⟩ := C
  obtain ⟨hx, hb, hml, hnl, hown, hts, hKK, hH0, hA, hlk, hrt, hR, hQ, hxt⟩ := hC
  intro ad H locs ls hW hAa hag hn hvl hvs hS hl
  exact lv_ddiv hx hb hdg h0 (kk ad H locs ls hW hAa hag hn hvl (vs_c Vok_double (vs_t (vs_t hvs))) hS hl)
theorem J_dmul {C : JC} {x : Bool} {cc : ByteArray} {nL : Nat} {rm : Room} {rt : Option FieldType} {own : String} {res : Res} {ce sl : Nat} {M : Mem} {pc : Nat} {lv : List (Nat × Value)} {st : List Value} {a b : UInt64} (hC : Ok C x cc nL rm rt own res) (hdg : decode cc pc = .ok (.dmul, 1)) (h0 : vf_n64 (FP.dmul a b))
    (kk : J C ce sl M (pc + 1) lv (.double (FP.dmul a b) :: st)) : J C ce sl M pc lv (.double b :: .double a :: st) := by
  obtain ⟨p, l, e, R, s, m, args, below, meth, c, H0, A, Q, nL0, G, ad0, n0⟩ := C
  obtain ⟨hx, hb, hml, hnl, hown, hts, hKK, hH0, hA, hlk, hrt, hR, hQ, hxt⟩ := hC
  intro ad H locs ls hW hAa hag hn hvl hvs hS hl
  exact lv_dmul hx hb hdg h0 (kk ad H locs ls hW hAa hag hn hvl (vs_c Vok_double (vs_t (vs_t hvs))) hS hl)
theorem J_dsub {C : JC} {x : Bool} {cc : ByteArray} {nL : Nat} {rm : Room} {rt : Option FieldType} {own : String} {res : Res} {ce sl : Nat} {M : Mem} {pc : Nat} {lv : List (Nat × Value)} {st : List Value} {a b : UInt64} (hC : Ok C x cc nL rm rt own res) (hdg : decode cc pc = .ok (.dsub, 1)) (h0 : vf_n64 (FP.dsub a b))
    (kk : J C ce sl M (pc + 1) lv (.double (FP.dsub a b) :: st)) : J C ce sl M pc lv (.double b :: .double a :: st) := by
  obtain ⟨p, l, e, R, s, m, args, below, meth, c, H0, A, Q, nL0, G, ad0, n0⟩ := C
  obtain ⟨hx, hb, hml, hnl, hown, hts, hKK, hH0, hA, hlk, hrt, hR, hQ, hxt⟩ := hC
  intro ad H locs ls hW hAa hag hn hvl hvs hS hl
  exact lv_dsub hx hb hdg h0 (kk ad H locs ls hW hAa hag hn hvl (vs_c Vok_double (vs_t (vs_t hvs))) hS hl)
theorem J_dup {C : JC} {x : Bool} {cc : ByteArray} {nL : Nat} {rm : Room} {rt : Option FieldType} {own : String} {res : Res} {ce sl : Nat} {M : Mem} {pc : Nat} {lv : List (Nat × Value)} {st : List Value} {v : Value} (hC : Ok C x cc nL rm rt own res) (hdg : decode cc pc = .ok (.dup, 1)) (h1 : v.category = 1)
    (kk : J C ce sl M (pc + 1) lv (v :: v :: st)) : J C ce sl M pc lv (v :: st) := by
  obtain ⟨p, l, e, R, s, m, args, below, meth, c, H0, A, Q, nL0, G, ad0, n0⟩ := C
  obtain ⟨hx, hb, hml, hnl, hown, hts, hKK, hH0, hA, hlk, hrt, hR, hQ, hxt⟩ := hC
  intro ad H locs ls hW hAa hag hn hvl hvs hS hl
  exact lv_dup hx hb hdg (by rw [cat_phys]; exact h1) (kk ad H locs ls hW hAa hag hn hvl (vs_c (vs_h hvs) hvs) hS hl)
theorem J_dup2 {C : JC} {x : Bool} {cc : ByteArray} {nL : Nat} {rm : Room} {rt : Option FieldType} {own : String} {res : Res} {ce sl : Nat} {M : Mem} {pc : Nat} {lv : List (Nat × Value)} {st : List Value} {v w : Value} (hC : Ok C x cc nL rm rt own res) (hdg : decode cc pc = .ok (.dup2, 1)) (h1 : v.category = 1) (h2 : w.category = 1)
    (kk : J C ce sl M (pc + 1) lv (v :: w :: v :: w :: st)) : J C ce sl M pc lv (v :: w :: st) := by
  obtain ⟨p, l, e, R, s, m, args, below, meth, c, H0, A, Q, nL0, G, ad0, n0⟩ := C
  obtain ⟨hx, hb, hml, hnl, hown, hts, hKK, hH0, hA, hlk, hrt, hR, hQ, hxt⟩ := hC
  intro ad H locs ls hW hAa hag hn hvl hvs hS hl
  exact lv_dup2_11 hx hb hdg (by rw [cat_phys]; exact h1) (by rw [cat_phys]; exact h2) (kk ad H locs ls hW hAa hag hn hvl (vs_c (vs_h hvs) (vs_c (vs_h (vs_t hvs)) hvs)) hS hl)
theorem J_if_eq {C : JC} {x : Bool} {cc : ByteArray} {nL : Nat} {rm : Room} {rt : Option FieldType} {own : String} {res : Res} {ce sl : Nat} {M : Mem} {pc : Nat} {lv : List (Nat × Value)} {st : List Value} {a : Int32} {off : Int} {tgt : Nat} (hC : Ok C x cc nL rm rt own res) (hdg : decode cc pc = .ok (.ifCond .eq off, 3)) (ht : (pc : Int) + off = (tgt : Int))
    (kt : a = 0 → J C ce sl M tgt lv st) (kf : ¬ (a = 0) → J C ce sl M (pc + 3) lv st) : J C ce sl M pc lv (.int a :: st) := by
  obtain ⟨p, l, e, R, s, m, args, below, meth, c, H0, A, Q, nL0, G, ad0, n0⟩ := C
  obtain ⟨hx, hb, hml, hnl, hown, hts, hKK, hH0, hA, hlk, hrt, hR, hQ, hxt⟩ := hC
  intro ad H locs ls hW hAa hag hn hvl hvs hS hl
  exact lv_if_eq hx hb hdg ht (fun h => kt h ad H locs ls hW hAa hag hn hvl (vs_t hvs) hS hl) (fun h => kf h ad H locs ls hW hAa hag hn hvl (vs_t hvs) hS hl)
theorem J_icmp_eq {C : JC} {x : Bool} {cc : ByteArray} {nL : Nat} {rm : Room} {rt : Option FieldType} {own : String} {res : Res} {ce sl : Nat} {M : Mem} {pc : Nat} {lv : List (Nat × Value)} {st : List Value} {a b : Int32} {off : Int} {tgt : Nat} (hC : Ok C x cc nL rm rt own res) (hdg : decode cc pc = .ok (.if_icmp .eq off, 3)) (ht : (pc : Int) + off = (tgt : Int))
    (kt : a = b → J C ce sl M tgt lv st) (kf : ¬ (a = b) → J C ce sl M (pc + 3) lv st) : J C ce sl M pc lv (.int b :: .int a :: st) := by
  obtain ⟨p, l, e, R, s, m, args, below, meth, c, H0, A, Q, nL0, G, ad0, n0⟩ := C
  obtain ⟨hx, hb, hml, hnl, hown, hts, hKK, hH0, hA, hlk, hrt, hR, hQ, hxt⟩ := hC
  intro ad H locs ls hW hAa hag hn hvl hvs hS hl
  exact lv_icmp_eq hx hb hdg ht (fun h => kt h ad H locs ls hW hAa hag hn hvl (vs_t (vs_t hvs)) hS hl) (fun h => kf h ad H locs ls hW hAa hag hn hvl (vs_t (vs_t hvs)) hS hl)
theorem J_if_lt {C : JC} {x : Bool} {cc : ByteArray} {nL : Nat} {rm : Room} {rt : Option FieldType} {own : String} {res : Res} {ce sl : Nat} {M : Mem} {pc : Nat} {lv : List (Nat × Value)} {st : List Value} {a : Int32} {off : Int} {tgt : Nat} (hC : Ok C x cc nL rm rt own res) (hdg : decode cc pc = .ok (.ifCond .lt off, 3)) (ht : (pc : Int) + off = (tgt : Int))
    (kt : a < 0 → J C ce sl M tgt lv st) (kf : ¬ (a < 0) → J C ce sl M (pc + 3) lv st) : J C ce sl M pc lv (.int a :: st) := by
  obtain ⟨p, l, e, R, s, m, args, below, meth, c, H0, A, Q, nL0, G, ad0, n0⟩ := C
  obtain ⟨hx, hb, hml, hnl, hown, hts, hKK, hH0, hA, hlk, hrt, hR, hQ, hxt⟩ := hC
  intro ad H locs ls hW hAa hag hn hvl hvs hS hl
  exact lv_if_lt hx hb hdg ht (fun h => kt h ad H locs ls hW hAa hag hn hvl (vs_t hvs) hS hl) (fun h => kf h ad H locs ls hW hAa hag hn hvl (vs_t hvs) hS hl)
theorem J_icmp_lt {C : JC} {x : Bool} {cc : ByteArray} {nL : Nat} {rm : Room} {rt : Option FieldType} {own : String} {res : Res} {ce sl : Nat} {M : Mem} {pc : Nat} {lv : List (Nat × Value)} {st : List Value} {a b : Int32} {off : Int} {tgt : Nat} (hC : Ok C x cc nL rm rt own res) (hdg : decode cc pc = .ok (.if_icmp .lt off, 3)) (ht : (pc : Int) + off = (tgt : Int))
    (kt : a < b → J C ce sl M tgt lv st) (kf : ¬ (a < b) → J C ce sl M (pc + 3) lv st) : J C ce sl M pc lv (.int b :: .int a :: st) := by
  obtain ⟨p, l, e, R, s, m, args, below, meth, c, H0, A, Q, nL0, G, ad0, n0⟩ := C
  obtain ⟨hx, hb, hml, hnl, hown, hts, hKK, hH0, hA, hlk, hrt, hR, hQ, hxt⟩ := hC
  intro ad H locs ls hW hAa hag hn hvl hvs hS hl
  exact lv_icmp_lt hx hb hdg ht (fun h => kt h ad H locs ls hW hAa hag hn hvl (vs_t (vs_t hvs)) hS hl) (fun h => kf h ad H locs ls hW hAa hag hn hvl (vs_t (vs_t hvs)) hS hl)
theorem J_if_ge {C : JC} {x : Bool} {cc : ByteArray} {nL : Nat} {rm : Room} {rt : Option FieldType} {own : String} {res : Res} {ce sl : Nat} {M : Mem} {pc : Nat} {lv : List (Nat × Value)} {st : List Value} {a : Int32} {off : Int} {tgt : Nat} (hC : Ok C x cc nL rm rt own res) (hdg : decode cc pc = .ok (.ifCond .ge off, 3)) (ht : (pc : Int) + off = (tgt : Int))
    (kt : 0 ≤ a → J C ce sl M tgt lv st) (kf : ¬ (0 ≤ a) → J C ce sl M (pc + 3) lv st) : J C ce sl M pc lv (.int a :: st) := by
  obtain ⟨p, l, e, R, s, m, args, below, meth, c, H0, A, Q, nL0, G, ad0, n0⟩ := C
  obtain ⟨hx, hb, hml, hnl, hown, hts, hKK, hH0, hA, hlk, hrt, hR, hQ, hxt⟩ := hC
  intro ad H locs ls hW hAa hag hn hvl hvs hS hl
  exact lv_if_ge hx hb hdg ht (fun h => kt h ad H locs ls hW hAa hag hn hvl (vs_t hvs) hS hl) (fun h => kf h ad H locs ls hW hAa hag hn hvl (vs_t hvs) hS hl)
theorem J_icmp_ge {C : JC} {x : Bool} {cc : ByteArray} {nL : Nat} {rm : Room} {rt : Option FieldType} {own : String} {res : Res} {ce sl : Nat} {M : Mem} {pc : Nat} {lv : List (Nat × Value)} {st : List Value} {a b : Int32} {off : Int} {tgt : Nat} (hC : Ok C x cc nL rm rt own res) (hdg : decode cc pc = .ok (.if_icmp .ge off, 3)) (ht : (pc : Int) + off = (tgt : Int))
    (kt : b ≤ a → J C ce sl M tgt lv st) (kf : ¬ (b ≤ a) → J C ce sl M (pc + 3) lv st) : J C ce sl M pc lv (.int b :: .int a :: st) := by
  obtain ⟨p, l, e, R, s, m, args, below, meth, c, H0, A, Q, nL0, G, ad0, n0⟩ := C
  obtain ⟨hx, hb, hml, hnl, hown, hts, hKK, hH0, hA, hlk, hrt, hR, hQ, hxt⟩ := hC
  intro ad H locs ls hW hAa hag hn hvl hvs hS hl
  exact lv_icmp_ge hx hb hdg ht (fun h => kt h ad H locs ls hW hAa hag hn hvl (vs_t (vs_t hvs)) hS hl) (fun h => kf h ad H locs ls hW hAa hag hn hvl (vs_t (vs_t hvs)) hS hl)
theorem J_if_gt {C : JC} {x : Bool} {cc : ByteArray} {nL : Nat} {rm : Room} {rt : Option FieldType} {own : String} {res : Res} {ce sl : Nat} {M : Mem} {pc : Nat} {lv : List (Nat × Value)} {st : List Value} {a : Int32} {off : Int} {tgt : Nat} (hC : Ok C x cc nL rm rt own res) (hdg : decode cc pc = .ok (.ifCond .gt off, 3)) (ht : (pc : Int) + off = (tgt : Int))
    (kt : 0 < a → J C ce sl M tgt lv st) (kf : ¬ (0 < a) → J C ce sl M (pc + 3) lv st) : J C ce sl M pc lv (.int a :: st) := by
  obtain ⟨p, l, e, R, s, m, args, below, meth, c, H0, A, Q, nL0, G, ad0, n0⟩ := C
  obtain ⟨hx, hb, hml, hnl, hown, hts, hKK, hH0, hA, hlk, hrt, hR, hQ, hxt⟩ := hC
  intro ad H locs ls hW hAa hag hn hvl hvs hS hl
  exact lv_if_gt hx hb hdg ht (fun h => kt h ad H locs ls hW hAa hag hn hvl (vs_t hvs) hS hl) (fun h => kf h ad H locs ls hW hAa hag hn hvl (vs_t hvs) hS hl)
theorem J_icmp_gt {C : JC} {x : Bool} {cc : ByteArray} {nL : Nat} {rm : Room} {rt : Option FieldType} {own : String} {res : Res} {ce sl : Nat} {M : Mem} {pc : Nat} {lv : List (Nat × Value)} {st : List Value} {a b : Int32} {off : Int} {tgt : Nat} (hC : Ok C x cc nL rm rt own res) (hdg : decode cc pc = .ok (.if_icmp .gt off, 3)) (ht : (pc : Int) + off = (tgt : Int))
    (kt : b < a → J C ce sl M tgt lv st) (kf : ¬ (b < a) → J C ce sl M (pc + 3) lv st) : J C ce sl M pc lv (.int b :: .int a :: st) := by
  obtain ⟨p, l, e, R, s, m, args, below, meth, c, H0, A, Q, nL0, G, ad0, n0⟩ := C
  obtain ⟨hx, hb, hml, hnl, hown, hts, hKK, hH0, hA, hlk, hrt, hR, hQ, hxt⟩ := hC
  intro ad H locs ls hW hAa hag hn hvl hvs hS hl
  exact lv_icmp_gt hx hb hdg ht (fun h => kt h ad H locs ls hW hAa hag hn hvl (vs_t (vs_t hvs)) hS hl) (fun h => kf h ad H locs ls hW hAa hag hn hvl (vs_t (vs_t hvs)) hS hl)
theorem J_if_le {C : JC} {x : Bool} {cc : ByteArray} {nL : Nat} {rm : Room} {rt : Option FieldType} {own : String} {res : Res} {ce sl : Nat} {M : Mem} {pc : Nat} {lv : List (Nat × Value)} {st : List Value} {a : Int32} {off : Int} {tgt : Nat} (hC : Ok C x cc nL rm rt own res) (hdg : decode cc pc = .ok (.ifCond .le off, 3)) (ht : (pc : Int) + off = (tgt : Int))
    (kt : a ≤ 0 → J C ce sl M tgt lv st) (kf : ¬ (a ≤ 0) → J C ce sl M (pc + 3) lv st) : J C ce sl M pc lv (.int a :: st) := by
  obtain ⟨p, l, e, R, s, m, args, below, meth, c, H0, A, Q, nL0, G, ad0, n0⟩ := C
  obtain ⟨hx, hb, hml, hnl, hown, hts, hKK, hH0, hA, hlk, hrt, hR, hQ, hxt⟩ := hC
  intro ad H locs ls hW hAa hag hn hvl hvs hS hl
  exact lv_if_le hx hb hdg ht (fun h => kt h ad H locs ls hW hAa hag hn hvl (vs_t hvs) hS hl) (fun h => kf h ad H locs ls hW hAa hag hn hvl (vs_t hvs) hS hl)
theorem J_icmp_le {C : JC} {x : Bool} {cc : ByteArray} {nL : Nat} {rm : Room} {rt : Option FieldType} {own : String} {res : Res} {ce sl : Nat} {M : Mem} {pc : Nat} {lv : List (Nat × Value)} {st : List Value} {a b : Int32} {off : Int} {tgt : Nat} (hC : Ok C x cc nL rm rt own res) (hdg : decode cc pc = .ok (.if_icmp .le off, 3)) (ht : (pc : Int) + off = (tgt : Int))
    (kt : a ≤ b → J C ce sl M tgt lv st) (kf : ¬ (a ≤ b) → J C ce sl M (pc + 3) lv st) : J C ce sl M pc lv (.int b :: .int a :: st) := by
  obtain ⟨p, l, e, R, s, m, args, below, meth, c, H0, A, Q, nL0, G, ad0, n0⟩ := C
  obtain ⟨hx, hb, hml, hnl, hown, hts, hKK, hH0, hA, hlk, hrt, hR, hQ, hxt⟩ := hC
  intro ad H locs ls hW hAa hag hn hvl hvs hS hl
  exact lv_icmp_le hx hb hdg ht (fun h => kt h ad H locs ls hW hAa hag hn hvl (vs_t (vs_t hvs)) hS hl) (fun h => kf h ad H locs ls hW hAa hag hn hvl (vs_t (vs_t hvs)) hS hl)
theorem J_if_ne {C : JC} {x : Bool} {cc : ByteArray} {nL : Nat} {rm : Room} {rt : Option FieldType} {own : String} {res : Res} {ce sl : Nat} {M : Mem} {pc : Nat} {lv : List (Nat × Value)} {st : List Value} {a : Int32} {off : Int} {tgt : Nat} (hC : Ok C x cc nL rm rt own res) (hdg : decode cc pc = .ok (.ifCond .ne off, 3)) (ht : (pc : Int) + off = (tgt : Int))
    (kt : ¬ (a = 0) → J C ce sl M tgt lv st) (kf : a = 0 → J C ce sl M (pc + 3) lv st) : J C ce sl M pc lv (.int a :: st) := by
  obtain ⟨p, l, e, R, s, m, args, below, meth, c, H0, A, Q, nL0, G, ad0, n0⟩ := C
  obtain ⟨hx, hb, hml, hnl, hown, hts, hKK, hH0, hA, hlk, hrt, hR, hQ, hxt⟩ := hC
  intro ad H locs ls hW hAa hag hn hvl hvs hS hl
  exact lv_if_ne hx hb hdg ht (fun h => kt h ad H locs ls hW hAa hag hn hvl (vs_t hvs) hS hl) (fun h => kf h ad H locs ls hW hAa hag hn hvl (vs_t hvs) hS hl)
theorem J_icmp_ne {C : JC} {x : Bool} {cc : ByteArray} {nL : Nat} {rm : Room} {rt : Option FieldType} {own : String} {res : Res} {ce sl : Nat} {M : Mem} {pc : Nat} {lv : List (Nat × Value)} {st : List Value} {a b : Int32} {off : Int} {tgt : Nat} (hC : Ok C x cc nL rm rt own res) (hdg : decode cc pc = .ok (.if_icmp .ne off, 3)) (ht : (pc : Int) + off = (tgt : Int))
    (kt : ¬ (a = b) → J C ce sl M tgt lv st) (kf : a = b → J C ce sl M (pc + 3) lv st) : J C ce sl M pc lv (.int b :: .int a :: st) := by
  obtain ⟨p, l, e, R, s, m, args, below, meth, c, H0, A, Q, nL0, G, ad0, n0⟩ := C
  obtain ⟨hx, hb, hml, hnl, hown, hts, hKK, hH0, hA, hlk, hrt, hR, hQ, hxt⟩ := hC
  intro ad H locs ls hW hAa hag hn hvl hvs hS hl
  exact lv_icmp_ne hx hb hdg ht (fun h => kt h ad H locs ls hW hAa hag hn hvl (vs_t (vs_t hvs)) hS hl) (fun h => kf h ad H locs ls hW hAa hag hn hvl (vs_t (vs_t hvs)) hS hl)
theorem J_goto {C : JC} {x : Bool} {cc : ByteArray} {nL : Nat} {rm : Room} {rt : Option FieldType} {own : String} {res : Res} {ce sl : Nat} {M : Mem} {pc : Nat} {lv : List (Nat × Value)} {st : List Value} {off : Int} {tgt : Nat} (hC : Ok C x cc nL rm rt own res) (hdg : decode cc pc = .ok (.goto off, 3)) (ht : (pc : Int) + off = (tgt : Int)) (kk : J C ce sl M tgt lv st) : J C ce sl M pc lv st := by
  obtain ⟨p, l, e, R, s, m, args, below, meth, c, H0, A, Q, nL0, G, ad0, n0⟩ := C
  obtain ⟨hx, hb, hml, hnl, hown, hts, hKK, hH0, hA, hlk, hrt, hR, hQ, hxt⟩ := hC
  intro ad H locs ls hW hAa hag hn hvl hvs hS hl
  exact lv_goto hx hb hdg ht (kk ad H locs ls hW hAa hag hn hvl hvs hS hl)
/-- fewer locals, in another order -/
theorem J_sub {C : JC} {ce sl : Nat} {M : Mem} {pc : Nat} {lv lv' : List (Nat × Value)} {st : List Value} (ks : List Nat) (h : lv_pick lv ks = lv') (kk : J C ce sl M pc lv' st) : J C ce sl M pc lv st := by
  obtain ⟨p, l, e, R, s, m, args, below, meth, c, H0, A, Q, nL0, G, ad0, n0⟩ := C
  intro ad H locs ls hW hAa hag hn hvl hvs hS hl
  refine kk ad H locs ls hW hAa hag hn (fun q hq => ?_) hvs hS (lv_sub hl ks ?_)
  · subst h
    obtain ⟨i, -, hi⟩ := List.mem_filterMap.mp hq
    exact hvl q (List.mem_of_getElem? hi)
  · subst h
    simp only [lv_pick, List.map_filterMap, List.getElem?_map]
theorem J_tableIn {C : JC} {x : Bool} {cc : ByteArray} {nL : Nat} {rm : Room} {rt : Option FieldType} {own : String} {res : Res} {ce sl : Nat} {M : Mem} {pc : Nat} {lv : List (Nat × Value)} {st : List Value} {dflt lo hi off : Int} {offs : Array Int} {len tgt : Nat} {a : Int32} (hC : Ok C x cc nL rm rt own res) (hdg : decode cc pc = .ok (.tableswitch dflt lo hi offs, len)) (h1 : ¬ a.toInt < lo) (h2 : ¬ hi < a.toInt) (ho : offs[(a.toInt - lo).toNat]? = some off) (ht : (pc : Int) + off = (tgt : Int)) (kk : J C ce sl M tgt lv st) : J C ce sl M pc lv (.int a :: st) := by
  obtain ⟨p, l, e, R, s, m, args, below, meth, c, H0, A, Q, nL0, G, ad0, n0⟩ := C
  obtain ⟨hx, hb, hml, hnl, hown, hts, hKK, hH0, hA, hlk, hrt, hR, hQ, hxt⟩ := hC
  intro ad H locs ls hW hAa hag hn hvl hvs hS hl
  exact lv_tableIn hx hb hdg h1 h2 ho ht (kk ad H locs ls hW hAa hag hn hvl (vs_t hvs) hS hl)
theorem J_tableOut {C : JC} {x : Bool} {cc : ByteArray} {nL : Nat} {rm : Room} {rt : Option FieldType} {own : String} {res : Res} {ce sl : Nat} {M : Mem} {pc : Nat} {lv : List (Nat × Value)} {st : List Value} {dflt lo hi : Int} {offs : Array Int} {len tgt : Nat} {a : Int32} (hC : Ok C x cc nL rm rt own res) (hdg : decode cc pc = .ok (.tableswitch dflt lo hi offs, len)) (h : a.toInt < lo ∨ hi < a.toInt) (ht : (pc : Int) + dflt = (tgt : Int)) (kk : J C ce sl M tgt lv st) : J C ce sl M pc lv (.int a :: st) := by
  obtain ⟨p, l, e, R, s, m, args, below, meth, c, H0, A, Q, nL0, G, ad0, n0⟩ := C
  obtain ⟨hx, hb, hml, hnl, hown, hts, hKK, hH0, hA, hlk, hrt, hR, hQ, hxt⟩ := hC
  intro ad H locs ls hW hAa hag hn hvl hvs hS hl
  exact lv_tableOut hx hb hdg h ht (kk ad H locs ls hW hAa hag hn hvl (vs_t hvs) hS hl)
theorem J_iret {C : JC} {x : Bool} {cc : ByteArray} {nL : Nat} {rm : Room} {rt : Option FieldType} {own : String} {res : Res} {ce sl : Nat} {M : Mem} {pc : Nat} {lv : List (Nat × Value)} {st : List Value} {v : Int32} (hC : Ok C x cc nL rm (some .int) own res) (hdg : decode cc pc = .ok (.ireturn, 1)) (h : (M, Sum.inr (some (Value.int v))) = res) (h1 : ce ≤ rm.cells) (h2 : sl ≤ rm.slots) : J C ce sl M pc lv [.int v] := by
  obtain ⟨p, l, e, R, s, m, args, below, meth, c, H0, A, Q, nL0, G, ad0, n0⟩ := C
  obtain ⟨hx, hb, hml, hnl, hown, hts, hKK, hH0, hA, hlk, hrt, hR, hQ, hxt⟩ := hC
  intro ad H locs ls hW hAa hag hn hvl hvs hS hl
  subst h
  refine W.widen h1 h2 ?_
  have key : ∀ t : State, t.heap = H → s.WarmedH t.vm → Qret G ad0 n0 A (M, Sum.inr (some (Value.int v))) args s (.returned (some (.int v))) t := fun t ht hWm => ⟨⟨ad, _, rfl, rfl, hag, hn, by rw [ht]; exact hW, hAa, fun w hw => by cases hw; exact Vok_int⟩, (hH0 ▸ hS).F ht⟩
  have k2 : W p l e R s m args below meth c H locs rm.cells rm.slots (MQ below (Qret G ad0 n0 A (M, Sum.inr (some (Value.int v)))) args s rm.cells rm.slots A) (F0 m pc ls [.int v]) := W.iret hx hb hrt key hS.2.2 hdg hlk
  subst hQ
  cases x with
  | false => exact k2
  | true => exact vx_ret k2
theorem J_lret {C : JC} {x : Bool} {cc : ByteArray} {nL : Nat} {rm : Room} {rt : Option FieldType} {own : String} {res : Res} {ce sl : Nat} {M : Mem} {pc : Nat} {lv : List (Nat × Value)} {st : List Value} {v : Int64} (hC : Ok C x cc nL rm (some .long) own res) (hdg : decode cc pc = .ok (.lreturn, 1)) (h : (M, Sum.inr (some (Value.long v))) = res) (h1 : ce ≤ rm.cells) (h2 : sl ≤ rm.slots) : J C ce sl M pc lv [.long v] := by
  obtain ⟨p, l, e, R, s, m, args, below, meth, c, H0, A, Q, nL0, G, ad0, n0⟩ := C
  obtain ⟨hx, hb, hml, hnl, hown, hts, hKK, hH0, hA, hlk, hrt, hR, hQ, hxt⟩ := hC
  intro ad H locs ls hW hAa hag hn hvl hvs hS hl
  subst h
  refine W.widen h1 h2 ?_
  have key : ∀ t : State, t.heap = H → s.WarmedH t.vm → Qret G ad0 n0 A (M, Sum.inr (some (Value.long v))) args s (.returned (some (.long v))) t := fun t ht hWm => ⟨⟨ad, _, rfl, rfl, hag, hn, by rw [ht]; exact hW, hAa, fun w hw => by cases hw; exact Vok_long⟩, (hH0 ▸ hS).F ht⟩
  have k2 : W p l e R s m args below meth c H locs rm.cells rm.slots (MQ below (Qret G ad0 n0 A (M, Sum.inr (some (Value.long v)))) args s rm.cells rm.slots A) (F0 m pc ls [.long v]) := W.lret hx hb hrt key hS.2.2 hdg hlk
  subst hQ
  cases x with
  | false => exact k2
  | true => exact vx_ret k2
theorem J_dret {C : JC} {x : Bool} {cc : ByteArray} {nL : Nat} {rm : Room} {rt : Option FieldType} {own : String} {res : Res} {ce sl : Nat} {M : Mem} {pc : Nat} {lv : List (Nat × Value)} {st : List Value} {v : UInt64} (hC : Ok C x cc nL rm (some .double) own res) (hdg : decode cc pc = .ok (.dreturn, 1)) (h : (M, Sum.inr (some (Value.double v))) = res) (h1 : ce ≤ rm.cells) (h2 : sl ≤ rm.slots) : J C ce sl M pc lv [.double v] := by
  obtain ⟨p, l, e, R, s, m, args, below, meth, c, H0, A, Q, nL0, G, ad0, n0⟩ := C
  obtain ⟨hx, hb, hml, hnl, hown, hts, hKK, hH0, hA, hlk, hrt, hR, hQ, hxt⟩ := hC
  intro ad H locs ls hW hAa hag hn hvl hvs hS hl
  subst h
  refine W.widen h1 h2 ?_
  have key : ∀ t : State, t.heap = H → s.WarmedH t.vm → Qret G ad0 n0 A (M, Sum.inr (some (Value.double v))) args s (.returned (some (.double v))) t := fun t ht hWm => ⟨⟨ad, _, rfl, rfl, hag, hn, by rw [ht]; exact hW, hAa, fun w hw => by cases hw; exact Vok_double⟩, (hH0 ▸ hS).F ht⟩
  have k2 : W p l e R s m args below meth c H locs rm.cells rm.slots (MQ below (Qret G ad0 n0 A (M, Sum.inr (some (Value.double v)))) args s rm.cells rm.slots A) (F0 m pc ls [.double v]) := W.dret hx hb hrt key hS.2.2 hdg hlk
  subst hQ
  cases x with
  | false => exact k2
  | true => exact vx_ret k2
theorem J_zret {C : JC} {x : Bool} {cc : ByteArray} {nL : Nat} {rm : Room} {rt : Option FieldType} {own : String} {res : Res} {ce sl : Nat} {M : Mem} {pc : Nat} {lv : List (Nat × Value)} {st : List Value} {v : Int32} (hC : Ok C x cc nL rm (some .boolean) own res) (hdg : decode cc pc = .ok (.ireturn, 1)) (hz : narrow .boolean (.int v) = .int v) (h : (M, Sum.inr (some (Value.int v))) = res) (h1 : ce ≤ rm.cells) (h2 : sl ≤ rm.slots) : J C ce sl M pc lv [.int v] := by
  obtain ⟨p, l, e, R, s, m, args, below, meth, c, H0, A, Q, nL0, G, ad0, n0⟩ := C
  obtain ⟨hx, hb, hml, hnl, hown, hts, hKK, hH0, hA, hlk, hrt, hR, hQ, hxt⟩ := hC
  intro ad H locs ls hW hAa hag hn hvl hvs hS hl
  subst h
  refine W.widen h1 h2 ?_
  have key : ∀ t : State, t.heap = H → s.WarmedH t.vm → Qret G ad0 n0 A (M, Sum.inr (some (Value.int v))) args s (.returned (some (.int v))) t := fun t ht hWm => ⟨⟨ad, _, rfl, rfl, hag, hn, by rw [ht]; exact hW, hAa, fun w hw => by cases hw; exact Vok_int⟩, (hH0 ▸ hS).F ht⟩
  have k2 : W p l e R s m args below meth c H locs rm.cells rm.slots (MQ below (Qret G ad0 n0 A (M, Sum.inr (some (Value.int v)))) args s rm.cells rm.slots A) (F0 m pc ls [.int v]) := W.zret hx hb hrt hz key hS.2.2 hdg hlk
  subst hQ
  cases x with
  | false => exact k2
  | true => exact vx_ret k2
theorem J_vret {C : JC} {x : Bool} {cc : ByteArray} {nL : Nat} {rm : Room} {rt : Option FieldType} {own : String} {res : Res} {ce sl : Nat} {M : Mem} {pc : Nat} {lv : List (Nat × Value)} {st : List Value} (hC : Ok C x cc nL rm none own res) (hdg : decode cc pc = .ok (.return_, 1)) (h : (M, Sum.inr none) = res) (h1 : ce ≤ rm.cells) (h2 : sl ≤ rm.slots) : J C ce sl M pc lv [] := by
  obtain ⟨p, l, e, R, s, m, args, below, meth, c, H0, A, Q, nL0, G, ad0, n0⟩ := C
  obtain ⟨hx, hb, hml, hnl, hown, hts, hKK, hH0, hA, hlk, hrt, hR, hQ, hxt⟩ := hC
  intro ad H locs ls hW hAa hag hn hvl hvs hS hl
  subst h
  refine W.widen h1 h2 ?_
  have key : ∀ t : State, t.heap = H → s.WarmedH t.vm → Qret G ad0 n0 A (M, Sum.inr none) args s (.returned none) t := fun t ht hWm => ⟨⟨ad, none, rfl, rfl, hag, hn, by rw [ht]; exact hW, hAa, fun w hw => by cases hw⟩, (hH0 ▸ hS).F ht⟩
  have k2 : W p l e R s m args below meth c H locs rm.cells rm.slots (MQ below (Qret G ad0 n0 A (M, Sum.inr none)) args s rm.cells rm.slots A) (F0 m pc ls []) := W.vret hx hb hrt key hS.2.2 hdg hlk
  subst hQ
  cases x with
  | false => exact k2
  | true => exact vx_ret k2
end
section
/-! ===== pure reads and writes ===== -/
def gI (ci k : Nat) (M : Mem) (a : Option Nat) : Option Int32 := a.bind fun i => if i < M.1 ∧ kd i = ci then some (mI M i k) else none
def gJ (ci k : Nat) (M : Mem) (a : Option Nat) : Option Int64 := a.bind fun i => if i < M.1 ∧ kd i = ci then some (mJ M i k) else none
def gR (ci k : Nat) (M : Mem) (a : Option Nat) : Option (Option Nat) := a.bind fun i => if i < M.1 ∧ kd i = ci then some (mR M i k) else none
def pI (ci k : Nat) (M : Mem) (a : Option Nat) (v : Int32) : Option Mem := a.bind fun i => if i < M.1 ∧ kd i = ci then some (sI M i k v) else none
def pJ (ci k : Nat) (M : Mem) (a : Option Nat) (v : Int64) : Option Mem := a.bind fun i => if i < M.1 ∧ kd i = ci then some (sJ M i k v) else none
def pR (ci k : Nat) (M : Mem) (a : Option Nat) (v : Option Nat) : Option Mem := a.bind fun i => if i < M.1 ∧ kd i = ci then some (sR M i k v) else none
def inR (x : Int32) (n : Nat) : Prop := ¬ x < 0 ∧ x.toNatClampNeg < n
def inRb (x : Int32) (n : Nat) : Bool := decide (¬ x < 0) && decide (x.toNatClampNeg < n)
theorem inRb_vp {x : Int32} {n : Nat} (h : inRb x n = true) : vp_in x n := by
  simp only [inRb, Bool.and_eq_true, decide_eq_true_eq] at h
  exact fun q => q.elim h.1 (fun r => absurd h.2 (Nat.not_lt.mpr r))
def aI (M : Mem) (a : Option Nat) (x : Int32) : Option Int32 := a.bind fun i => if i < M.1 ∧ kd i = 4 ∧ inRb x (ln i) = true then some (mI M i x.toNatClampNeg) else none
def aJ (M : Mem) (a : Option Nat) (x : Int32) : Option Int64 := a.bind fun i => if i < M.1 ∧ kd i = 5 ∧ inRb x (ln i) = true then some (mJ M i x.toNatClampNeg) else none
def aZ (M : Mem) (a : Option Nat) (x : Int32) : Option Int32 := a.bind fun i => if i < M.1 ∧ kd i = 6 ∧ inRb x (ln i) = true then some (mI M i x.toNatClampNeg) else none
def aD (M : Mem) (a : Option Nat) (x : Int32) : Option UInt64 := a.bind fun i => if i < M.1 ∧ kd i = 10 ∧ inRb x (ln i) = true then some (mD M i x.toNatClampNeg) else none
def aR (kk : Nat) (M : Mem) (a : Option Nat) (x : Int32) : Option (Option Nat) := a.bind fun i => if i < M.1 ∧ kd i = kk ∧ inRb x (ln i) = true then some (mR M i x.toNatClampNeg) else none
def wI (M : Mem) (a : Option Nat) (x : Int32) (v : Int32) : Option Mem := a.bind fun i => if i < M.1 ∧ kd i = 4 ∧ inRb x (ln i) = true then some (sI M i x.toNatClampNeg v) else none
def wJ (M : Mem) (a : Option Nat) (x : Int32) (v : Int64) : Option Mem := a.bind fun i => if i < M.1 ∧ kd i = 5 ∧ inRb x (ln i) = true then some (sJ M i x.toNatClampNeg v) else none
def wZ (M : Mem) (a : Option Nat) (x : Int32) (v : Int32) : Option Mem := a.bind fun i => if i < M.1 ∧ kd i = 6 ∧ inRb x (ln i) = true ∧ v = 1 then some (sI M i x.toNatClampNeg v) else none
def wD (M : Mem) (a : Option Nat) (x : Int32) (v : UInt64) : Option Mem := a.bind fun i => if i < M.1 ∧ kd i = 10 ∧ inRb x (ln i) = true then some (sD M i x.toNatClampNeg v) else none
def wR (kk kv : Nat) (M : Mem) (a : Option Nat) (x : Int32) (v : Option Nat) : Option Mem := a.bind fun i => v.bind fun j => if i < M.1 ∧ kd i = kk ∧ inRb x (ln i) = true ∧ j < M.1 ∧ kd j = kv then some (sR M i x.toNatClampNeg (some j)) else none
def aL (M : Mem) (a : Option Nat) : Option Int32 := a.bind fun i => if i < M.1 ∧ 4 ≤ kd i ∧ kd i ≤ 10 then some (Int32.ofNat (ln i)) else none
def sRow (M : Mem) (a : Nat) (f : Nat → Int32) : Mem := (M.1, (fun b j => if b = a then f j else mI M b j), mJ M, mR M, mD M)
def cpI (M : Mem) (a : Option Nat) (sp : Int32) (b : Option Nat) (dp n : Int32) : Option Mem := a.bind fun i => b.bind fun j =>
  if (i < M.1 ∧ kd i = 4 ∧ j < M.1 ∧ kd j = 4) ∧ (¬ sp < 0 ∧ ¬ dp < 0 ∧ ¬ n < 0) ∧ sp.toNatClampNeg + n.toNatClampNeg ≤ ln i ∧ dp.toNatClampNeg + n.toNatClampNeg ≤ ln j then some (sRow M j (va_cpy (mI M i) (mI M j) sp.toNatClampNeg dp.toNatClampNeg n.toNatClampNeg)) else none
theorem bnd {α β : Type} {o : Option α} {f : α → Option β} {r : β} (h : o.bind f = some r) : ∃ v, o = some v ∧ f v = some r := Option.bind_eq_some_iff.mp h
theorem pool_D {G : Geo} {ad : Nat → Nat} {M : Mem} {H : Heap} {A : Nat → Prop} (h : Wd G ad M H) (hA : ∀ i, i < M.1 → A (ad i)) : va_D A (pool G ad M) := by
  have key : ∀ (k : Nat) (q : Nat × va_E), (pool G ad M)[k]? = some q → k < M.1 ∧ q.1 = ad k := by
    intro k q hq
    by_cases hk : k < M.1
    · rw [pool_at hk] at hq
      cases hq
      exact ⟨hk, rfl⟩
    · simp [pool, hk] at hq
  refine ⟨fun i j x y hi hj e => ?_, fun k q hk => ?_⟩
  · obtain ⟨i1, i2⟩ := key i x hi
    obtain ⟨j1, j2⟩ := key j y hj
    exact h.2.1 i j i1 j1 (by rw [← i2, ← j2]; exact e)
  · obtain ⟨k1, k2⟩ := key k q hk
    rw [k2]
    exact hA k k1
theorem ent_sRow_ne {G : Geo} {ad : Nat → Nat} {M : Mem} {a : Nat} {f : Nat → Int32} {j : Nat} (h : j ≠ a) : ent G ad (sRow M a f) j = ent G ad M j := by
  have e2 : mI (sRow M a f) j = mI M j := funext fun q => by show (if j = a then _ else _) = _; rw [if_neg h]
  simp only [ent, e2, show mR (sRow M a f) = mR M from rfl, show mJ (sRow M a f) = mJ M from rfl, show mD (sRow M a f) = mD M from rfl]
theorem wf_sR {M : Mem} {i k : Nat} {v : Option Nat} (h : wfM M) (hv : Vok M.1 (va_rf v)) : wfM (sR M i k v) := fun a q j ha e => by
  have e : up2 (mR M) i k v a q = some j := e
  unfold up2 at e
  split at e
  · subst e; exact hv j rfl
  · exact h a q j ha e
theorem up2_self {α : Type} (f : Nat → Nat → α) (a k : Nat) (v : α) (j : Nat) : up2 f a k v a j = if j = k then v else f a j := by simp [up2]
def isInit (C : JC) : Prop := match C with
  | (p, l, e, R, s, m, args, below, meth, c, H0, A, Q, nL0, G, ad0, n0) => meth.name = "<init>"
theorem w_acn : Cond.native arraycopyName ∈ BIG := by decide +kernel
theorem w_acs : Cond.static arraycopyName ∈ BIG := by decide +kernel
theorem w_aci : Cond.initialized "java/lang/System" ∈ BIG := by decide +kernel
theorem inB0 : ∀ w ∈ wsX00, w ∈ BIG := by decide +kernel
theorem inB1 : ∀ w ∈ wsX10, w ∈ BIG := by decide +kernel
theorem inB2 : ∀ w ∈ wsX20, w ∈ BIG := by decide +kernel
theorem inB3 : ∀ w ∈ wsX30, w ∈ BIG := by decide +kernel
theorem ent_0 {G : Geo} {ad : Nat → Nat} {M : Mem} {i : Nat} (h : kd i = 0) : ent G ad M i = .inr (0, [re ad (mR M i 0), re ad (mR M i 1), re ad (mR M i 2), .int (mI M i 3), .int (mI M i 4), .int (mI M i 5)]) := by simp [ent, h]
theorem ent_1 {G : Geo} {ad : Nat → Nat} {M : Mem} {i : Nat} (h : kd i = 1) : ent G ad M i = .inr (1, [re ad (mR M i 0), re ad (mR M i 1), .int (mI M i 2), .int (mI M i 3), .int (mI M i 4)]) := by simp [ent, h]
theorem ent_2 {G : Geo} {ad : Nat → Nat} {M : Mem} {i : Nat} (h : kd i = 2) : ent G ad M i = .inr (2, [re ad (mR M i 0), re ad (mR M i 1), .int (mI M i 2), re ad (mR M i 3), re ad (mR M i 4), re ad (mR M i 5), .int (mI M i 6), re ad (mR M i 7), re ad (mR M i 8)]) := by simp [ent, h]
theorem ent_3 {G : Geo} {ad : Nat → Nat} {M : Mem} {i : Nat} (h : kd i = 3) : ent G ad M i = .inr (3, [.int (mI M i 0), re ad (mR M i 1), re ad (mR M i 2), .int (mI M i 3), re ad (mR M i 4), re ad (mR M i 5), re ad (mR M i 6), .int (mI M i 7), re ad (mR M i 8), re ad (mR M i 9), .int (mI M i 10), re ad (mR M i 11), .long (mJ M i 12)]) := by simp [ent, h]
theorem ent_4 {G : Geo} {ad : Nat → Nat} {M : Mem} {i : Nat} (h : kd i = 4) : ent G ad M i = .inl (G.2 0, ln i, .inl (mI M i)) := by simp [ent, h]
theorem ent_5 {G : Geo} {ad : Nat → Nat} {M : Mem} {i : Nat} (h : kd i = 5) : ent G ad M i = .inl (G.2 1, ln i, .inr (.inl (mJ M i))) := by simp [ent, h]
theorem ent_6 {G : Geo} {ad : Nat → Nat} {M : Mem} {i : Nat} (h : kd i = 6) : ent G ad M i = .inl (G.2 2, ln i, .inl (mI M i)) := by simp [ent, h]
theorem ent_7 {G : Geo} {ad : Nat → Nat} {M : Mem} {i : Nat} (h : kd i = 7) : ent G ad M i = .inl (G.2 3, ln i, .inr (.inr (.inr (.inr (fun k => (mR M i k).map ad))))) := by simp [ent, h]
theorem ent_8 {G : Geo} {ad : Nat → Nat} {M : Mem} {i : Nat} (h : kd i = 8) : ent G ad M i = .inl (G.2 4, ln i, .inr (.inr (.inr (.inr (fun k => (mR M i k).map ad))))) := by simp [ent, h]
theorem ent_9 {G : Geo} {ad : Nat → Nat} {M : Mem} {i : Nat} (h : kd i = 9) : ent G ad M i = .inl (G.2 5, ln i, .inr (.inr (.inr (.inr (fun k => (mR M i k).map ad))))) := by simp [ent, h]
theorem ent_10 {G : Geo} {ad : Nat → Nat} {M : Mem} {i : Nat} (h : kd i = 10) : ent G ad M i = .inl (G.2 6, ln i, .inr (.inr (.inr (.inl (mD M i))))) := by simp [ent, h]
theorem J_g0_0 {C : JC} {x : Bool} {cc : ByteArray} {nL : Nat} {rm : Room} {rt : Option FieldType} {own : String} {res : Res} {ce sl : Nat} {M : Mem} {pc : Nat} {lv : List (Nat × Value)} {st : List Value} {β : Type} {r0 : β} {f : Option Nat → Option β} {index : Nat} {a : Option Nat} (hC : Ok C x cc nL rm rt own res) (hw : Cond.fieldLink own index RX0 (TX0 0).2.1 (TX0 0).2.2.1 ∈ BIG) (hdg : decode cc pc = .ok (.getfield index, 3)) (h : (gR 0 0 M a).bind f = some r0)
    (kk : ∀ v, gR 0 0 M a = some v → f v = some r0 → J C ce sl M (pc + 3) lv (va_rf v :: st)) : J C ce sl M pc lv (va_rf a :: st) := by
  obtain ⟨v, hv, hf⟩ := bnd h
  have kk := kk v hv hf
  obtain ⟨i, rfl, hv2⟩ := bnd hv
  split at hv2
  case isFalse => cases hv2
  case isTrue hi =>
  cases hv2
  obtain ⟨p, l, e, R, s, m, args, below, meth, c, H0, A, Q, nL0, G, ad0, n0⟩ := C
  obtain ⟨hx, hb, hml, hnl, hown, hts, hKK, hH0, hA, hlk, hrt, hR, hQ, hxt⟩ := hC
  intro ad H locs ls hW hAa hag hn hvl hvs hS hl
  have he := pool_at (G := G) (ad := ad) hi.1
  rw [ent_0 hi.2] at he
  have k2 := kk ad H locs ls hW hAa hag hn hvl (vs_c (Vok_rf (fun j e => hW.2.2 _ _ j hi.1 e)) (vs_t hvs)) hS hl
  rw [List.map_cons, phys_rf] at k2
  exact va_get (D := G.1) (ci := 0) (C := RX0) (T := TX0) (N := 6) hx hb hts inB0 hown hKK.1.1 hW.1 i he rfl 0 (by decide) (hts _ hw) (fun _ h9 => h9) rfl hdg k2
theorem J_p0_0 {C : JC} {x : Bool} {cc : ByteArray} {nL : Nat} {rm : Room} {rt : Option FieldType} {own : String} {res : Res} {ce sl : Nat} {M : Mem} {pc : Nat} {lv : List (Nat × Value)} {st : List Value} {β : Type} {r0 : β} {f : Mem → Option β} {index : Nat} {a : Option Nat} {v : Option Nat} (hC : Ok C x cc nL rm rt own res) (hin : isInit C) (hdc : (TX0 0).1 = own) (hw : Cond.fieldLink own index RX0 (TX0 0).2.1 (TX0 0).2.2.1 ∈ BIG) (hdg : decode cc pc = .ok (.putfield index, 3)) (h : (pR 0 0 M a v).bind f = some r0)
    (kk : ∀ M', pR 0 0 M a v = some M' → f M' = some r0 → J C ce sl M' (pc + 3) lv st) : J C ce sl M pc lv (va_rf v :: va_rf a :: st) := by
  obtain ⟨M', hv, hf⟩ := bnd h
  have kk := kk M' hv hf
  obtain ⟨i, rfl, hv2⟩ := bnd hv
  split at hv2
  case isFalse => cases hv2
  case isTrue hi =>
  cases hv2
  obtain ⟨p, l, e, R, s, m, args, below, meth, c, H0, A, Q, nL0, G, ad0, n0⟩ := C
  obtain ⟨hx, hb, hml, hnl, hown, hts, hKK, hH0, hA, hlk, hrt, hR, hQ, hxt⟩ := hC
  intro ad H locs ls hW hAa hag hn hvl hvs hS hl
  have he := pool_at (G := G) (ad := ad) hi.1
  rw [ent_0 hi.2] at he
  have hD := pool_D hW hAa
  have e2 : (pool G ad M).set i (ad i, .inr (0, [re ad v, re ad (mR M i 1), re ad (mR M i 2), .int (mI M i 3), .int (mI M i 4), .int (mI M i 5)])) = pool G ad (sR M i 0 v) := pool_set rfl hi.1 (by rw [ent_0 hi.2]; simp [sR, mI, mJ, mR, up2]) (fun j hj => ent_sR_ne hj)
  have e3 : phys ad (va_rf v) = re ad v := phys_rf ad v
  rw [List.map_cons, e3]
  skip
  exact va_putF (D := G.1) (ci := 0) (C := RX0) (T := TX0) (N := 6) (ty := tyX0 0) (v := re ad v) hx hb hts inB0 tyX0 tyX0_ok nmX0 hown hKK.1.1 hW.1 hD hS i he rfl 0 (by decide) (hts _ hw) (fun _ h9 => h9) rfl hin hdc (by decide +kernel) (by cases v <;> rfl) (by cases v <;> rfl) (Nat.le_of_ble_eq_true rfl) hdg (fun H1 locs1 hP1 hD1 hS1 => kk ad H1 locs1 ls ⟨by rw [← e2]; exact hP1, hW.2.1, wf_sR hW.2.2 (vs_h hvs)⟩ hAa hag hn hvl (vs_t (vs_t hvs)) hS1 hl)
theorem J_g0_1 {C : JC} {x : Bool} {cc : ByteArray} {nL : Nat} {rm : Room} {rt : Option FieldType} {own : String} {res : Res} {ce sl : Nat} {M : Mem} {pc : Nat} {lv : List (Nat × Value)} {st : List Value} {β : Type} {r0 : β} {f : Option Nat → Option β} {index : Nat} {a : Option Nat} (hC : Ok C x cc nL rm rt own res) (hw : Cond.fieldLink own index RX0 (TX0 1).2.1 (TX0 1).2.2.1 ∈ BIG) (hdg : decode cc pc = .ok (.getfield index, 3)) (h : (gR 0 1 M a).bind f = some r0)
    (kk : ∀ v, gR 0 1 M a = some v → f v = some r0 → J C ce sl M (pc + 3) lv (va_rf v :: st)) : J C ce sl M pc lv (va_rf a :: st) := by
  obtain ⟨v, hv, hf⟩ := bnd h
  have kk := kk v hv hf
  obtain ⟨i, rfl, hv2⟩ := bnd hv
  split at hv2
  case isFalse => cases hv2
  case isTrue hi =>
  cases hv2
  obtain ⟨p, l, e, R, s, m, args, below, meth, c, H0, A, Q, nL0, G, ad0, n0⟩ := C
  obtain ⟨hx, hb, hml, hnl, hown, hts, hKK, hH0, hA, hlk, hrt, hR, hQ, hxt⟩ := hC
  intro ad H locs ls hW hAa hag hn hvl hvs hS hl
  have he := pool_at (G := G) (ad := ad) hi.1
  rw [ent_0 hi.2] at he
  have k2 := kk ad H locs ls hW hAa hag hn hvl (vs_c (Vok_rf (fun j e => hW.2.2 _ _ j hi.1 e)) (vs_t hvs)) hS hl
  rw [List.map_cons, phys_rf] at k2
  exact va_get (D := G.1) (ci := 0) (C := RX0) (T := TX0) (N := 6) hx hb hts inB0 hown hKK.1.1 hW.1 i he rfl 1 (by decide) (hts _ hw) (fun _ h9 => h9) rfl hdg k2
theorem J_p0_1 {C : JC} {x : Bool} {cc : ByteArray} {nL : Nat} {rm : Room} {rt : Option FieldType} {own : String} {res : Res} {ce sl : Nat} {M : Mem} {pc : Nat} {lv : List (Nat × Value)} {st : List Value} {β : Type} {r0 : β} {f : Mem → Option β} {index : Nat} {a : Option Nat} {v : Option Nat} (hC : Ok C x cc nL rm rt own res) (hin : isInit C) (hdc : (TX0 1).1 = own) (hw : Cond.fieldLink own index RX0 (TX0 1).2.1 (TX0 1).2.2.1 ∈ BIG) (hdg : decode cc pc = .ok (.putfield index, 3)) (h : (pR 0 1 M a v).bind f = some r0)
    (kk : ∀ M', pR 0 1 M a v = some M' → f M' = some r0 → J C ce sl M' (pc + 3) lv st) : J C ce sl M pc lv (va_rf v :: va_rf a :: st) := by
  obtain ⟨M', hv, hf⟩ := bnd h
  have kk := kk M' hv hf
  obtain ⟨i, rfl, hv2⟩ := bnd hv
  split at hv2
  case isFalse => cases hv2
  case isTrue hi =>
  cases hv2
  obtain ⟨p, l, e, R, s, m, args, below, meth, c, H0, A, Q, nL0, G, ad0, n0⟩ := C
  obtain ⟨hx, hb, hml, hnl, hown, hts, hKK, hH0, hA, hlk, hrt, hR, hQ, hxt⟩ := hC
  intro ad H locs ls hW hAa hag hn hvl hvs hS hl
  have he := pool_at (G := G) (ad := ad) hi.1
  rw [ent_0 hi.2] at he
  have hD := pool_D hW hAa
  have e2 : (pool G ad M).set i (ad i, .inr (0, [re ad (mR M i 0), re ad v, re ad (mR M i 2), .int (mI M i 3), .int (mI M i 4), .int (mI M i 5)])) = pool G ad (sR M i 1 v) := pool_set rfl hi.1 (by rw [ent_0 hi.2]; simp [sR, mI, mJ, mR, up2]) (fun j hj => ent_sR_ne hj)
  have e3 : phys ad (va_rf v) = re ad v := phys_rf ad v
  rw [List.map_cons, e3]
  skip
  exact va_putF (D := G.1) (ci := 0) (C := RX0) (T := TX0) (N := 6) (ty := tyX0 1) (v := re ad v) hx hb hts inB0 tyX0 tyX0_ok nmX0 hown hKK.1.1 hW.1 hD hS i he rfl 1 (by decide) (hts _ hw) (fun _ h9 => h9) rfl hin hdc (by decide +kernel) (by cases v <;> rfl) (by cases v <;> rfl) (Nat.le_of_ble_eq_true rfl) hdg (fun H1 locs1 hP1 hD1 hS1 => kk ad H1 locs1 ls ⟨by rw [← e2]; exact hP1, hW.2.1, wf_sR hW.2.2 (vs_h hvs)⟩ hAa hag hn hvl (vs_t (vs_t hvs)) hS1 hl)
theorem J_g0_2 {C : JC} {x : Bool} {cc : ByteArray} {nL : Nat} {rm : Room} {rt : Option FieldType} {own : String} {res : Res} {ce sl : Nat} {M : Mem} {pc : Nat} {lv : List (Nat × Value)} {st : List Value} {β : Type} {r0 : β} {f : Option Nat → Option β} {index : Nat} {a : Option Nat} (hC : Ok C x cc nL rm rt own res) (hw : Cond.fieldLink own index RX0 (TX0 2).2.1 (TX0 2).2.2.1 ∈ BIG) (hdg : decode cc pc = .ok (.getfield index, 3)) (h : (gR 0 2 M a).bind f = some r0)
    (kk : ∀ v, gR 0 2 M a = some v → f v = some r0 → J C ce sl M (pc + 3) lv (va_rf v :: st)) : J C ce sl M pc lv (va_rf a :: st) := by
  obtain ⟨v, hv, hf⟩ := bnd h
  have kk := kk v hv hf
  obtain ⟨i, rfl, hv2⟩ := bnd hv
  split at hv2
  case isFalse => cases hv2
  case isTrue hi =>
  cases hv2
  obtain ⟨p, l, e, R, s, m, args, below, meth, c, H0, A, Q, nL0, G, ad0, n0⟩ := C
  obtain ⟨hx, hb, hml, hnl, hown, hts, hKK, hH0, hA, hlk, hrt, hR, hQ, hxt⟩ := hC
  intro ad H locs ls hW hAa hag hn hvl hvs hS hl
  have he := pool_at (G := G) (ad := ad) hi.1
  rw [ent_0 hi.2] at he
  have k2 := kk ad H locs ls hW hAa hag hn hvl (vs_c (Vok_rf (fun j e => hW.2.2 _ _ j hi.1 e)) (vs_t hvs)) hS hl
  rw [List.map_cons, phys_rf] at k2
  exact va_get (D := G.1) (ci := 0) (C := RX0) (T := TX0) (N := 6) hx hb hts inB0 hown hKK.1.1 hW.1 i he rfl 2 (by decide) (hts _ hw) (fun _ h9 => h9) rfl hdg k2
theorem J_p0_2 {C : JC} {x : Bool} {cc : ByteArray} {nL : Nat} {rm : Room} {rt : Option FieldType} {own : String} {res : Res} {ce sl : Nat} {M : Mem} {pc : Nat} {lv : List (Nat × Value)} {st : List Value} {β : Type} {r0 : β} {f : Mem → Option β} {index : Nat} {a : Option Nat} {v : Option Nat} (hC : Ok C x cc nL rm rt own res) (hin : isInit C) (hdc : (TX0 2).1 = own) (hw : Cond.fieldLink own index RX0 (TX0 2).2.1 (TX0 2).2.2.1 ∈ BIG) (hdg : decode cc pc = .ok (.putfield index, 3)) (h : (pR 0 2 M a v).bind f = some r0)
    (kk : ∀ M', pR 0 2 M a v = some M' → f M' = some r0 → J C ce sl M' (pc + 3) lv st) : J C ce sl M pc lv (va_rf v :: va_rf a :: st) := by
  obtain ⟨M', hv, hf⟩ := bnd h
  have kk := kk M' hv hf
  obtain ⟨i, rfl, hv2⟩ := bnd hv
  split at hv2
  case isFalse => cases hv2
  case isTrue hi =>
  cases hv2
  obtain ⟨p, l, e, R, s, m, args, below, meth, c, H0, A, Q, nL0, G, ad0, n0⟩ := C
  obtain ⟨hx, hb, hml, hnl, hown, hts, hKK, hH0, hA, hlk, hrt, hR, hQ, hxt⟩ := hC
  intro ad H locs ls hW hAa hag hn hvl hvs hS hl
  have he := pool_at (G := G) (ad := ad) hi.1
  rw [ent_0 hi.2] at he
  have hD := pool_D hW hAa
  have e2 : (pool G ad M).set i (ad i, .inr (0, [re ad (mR M i 0), re ad (mR M i 1), re ad v, .int (mI M i 3), .int (mI M i 4), .int (mI M i 5)])) = pool G ad (sR M i 2 v) := pool_set rfl hi.1 (by rw [ent_0 hi.2]; simp [sR, mI, mJ, mR, up2]) (fun j hj => ent_sR_ne hj)
  have e3 : phys ad (va_rf v) = re ad v := phys_rf ad v
  rw [List.map_cons, e3]
  skip
  exact va_putF (D := G.1) (ci := 0) (C := RX0) (T := TX0) (N := 6) (ty := tyX0 2) (v := re ad v) hx hb hts inB0 tyX0 tyX0_ok nmX0 hown hKK.1.1 hW.1 hD hS i he rfl 2 (by decide) (hts _ hw) (fun _ h9 => h9) rfl hin hdc (by decide +kernel) (by cases v <;> rfl) (by cases v <;> rfl) (Nat.le_of_ble_eq_true rfl) hdg (fun H1 locs1 hP1 hD1 hS1 => kk ad H1 locs1 ls ⟨by rw [← e2]; exact hP1, hW.2.1, wf_sR hW.2.2 (vs_h hvs)⟩ hAa hag hn hvl (vs_t (vs_t hvs)) hS1 hl)
theorem J_g0_3 {C : JC} {x : Bool} {cc : ByteArray} {nL : Nat} {rm : Room} {rt : Option FieldType} {own : String} {res : Res} {ce sl : Nat} {M : Mem} {pc : Nat} {lv : List (Nat × Value)} {st : List Value} {β : Type} {r0 : β} {f : Int32 → Option β} {index : Nat} {a : Option Nat} (hC : Ok C x cc nL rm rt own res) (hw : Cond.fieldLink own index RX0 (TX0 3).2.1 (TX0 3).2.2.1 ∈ BIG) (hdg : decode cc pc = .ok (.getfield index, 3)) (h : (gI 0 3 M a).bind f = some r0)
    (kk : ∀ v, gI 0 3 M a = some v → f v = some r0 → J C ce sl M (pc + 3) lv (.int v :: st)) : J C ce sl M pc lv (va_rf a :: st) := by
  obtain ⟨v, hv, hf⟩ := bnd h
  have kk := kk v hv hf
  obtain ⟨i, rfl, hv2⟩ := bnd hv
  split at hv2
  case isFalse => cases hv2
  case isTrue hi =>
  cases hv2
  obtain ⟨p, l, e, R, s, m, args, below, meth, c, H0, A, Q, nL0, G, ad0, n0⟩ := C
  obtain ⟨hx, hb, hml, hnl, hown, hts, hKK, hH0, hA, hlk, hrt, hR, hQ, hxt⟩ := hC
  intro ad H locs ls hW hAa hag hn hvl hvs hS hl
  have he := pool_at (G := G) (ad := ad) hi.1
  rw [ent_0 hi.2] at he
  have k2 := kk ad H locs ls hW hAa hag hn hvl (vs_c Vok_int (vs_t hvs)) hS hl
  skip
  exact va_get (D := G.1) (ci := 0) (C := RX0) (T := TX0) (N := 6) hx hb hts inB0 hown hKK.1.1 hW.1 i he rfl 3 (by decide) (hts _ hw) (fun _ h9 => h9) rfl hdg k2
theorem J_p0_3 {C : JC} {x : Bool} {cc : ByteArray} {nL : Nat} {rm : Room} {rt : Option FieldType} {own : String} {res : Res} {ce sl : Nat} {M : Mem} {pc : Nat} {lv : List (Nat × Value)} {st : List Value} {β : Type} {r0 : β} {f : Mem → Option β} {index : Nat} {a : Option Nat} {v : Int32} (hC : Ok C x cc nL rm rt own res) (hw : Cond.fieldLink own index RX0 (TX0 3).2.1 (TX0 3).2.2.1 ∈ BIG) (hdg : decode cc pc = .ok (.putfield index, 3)) (h : (pI 0 3 M a v).bind f = some r0)
    (kk : ∀ M', pI 0 3 M a v = some M' → f M' = some r0 → J C ce sl M' (pc + 3) lv st) : J C ce sl M pc lv (.int v :: va_rf a :: st) := by
  obtain ⟨M', hv, hf⟩ := bnd h
  have kk := kk M' hv hf
  obtain ⟨i, rfl, hv2⟩ := bnd hv
  split at hv2
  case isFalse => cases hv2
  case isTrue hi =>
  cases hv2
  obtain ⟨p, l, e, R, s, m, args, below, meth, c, H0, A, Q, nL0, G, ad0, n0⟩ := C
  obtain ⟨hx, hb, hml, hnl, hown, hts, hKK, hH0, hA, hlk, hrt, hR, hQ, hxt⟩ := hC
  intro ad H locs ls hW hAa hag hn hvl hvs hS hl
  have he := pool_at (G := G) (ad := ad) hi.1
  rw [ent_0 hi.2] at he
  have hD := pool_D hW hAa
  have e2 : (pool G ad M).set i (ad i, .inr (0, [re ad (mR M i 0), re ad (mR M i 1), re ad (mR M i 2), .int v, .int (mI M i 4), .int (mI M i 5)])) = pool G ad (sI M i 3 v) := pool_set rfl hi.1 (by rw [ent_0 hi.2]; simp [sI, mI, mJ, mR, up2]) (fun j hj => ent_sI_ne hj)
  skip
  skip
  skip
  exact va_put (D := G.1) (ci := 0) (C := RX0) (T := TX0) (N := 6) (ty := tyX0 3) (v := .int v) hx hb hts inB0 tyX0 tyX0_ok nmX0 hown hKK.1.1 hW.1 hD hS i he rfl 3 (by decide) (hts _ hw) (fun _ h9 => h9) rfl (by decide +kernel) rfl rfl (Nat.le_of_ble_eq_true rfl) hdg (fun H1 locs1 hP1 hD1 hS1 => kk ad H1 locs1 ls ⟨by rw [← e2]; exact hP1, hW.2.1, hW.2.2⟩ hAa hag hn hvl (vs_t (vs_t hvs)) hS1 hl)
theorem J_g0_4 {C : JC} {x : Bool} {cc : ByteArray} {nL : Nat} {rm : Room} {rt : Option FieldType} {own : String} {res : Res} {ce sl : Nat} {M : Mem} {pc : Nat} {lv : List (Nat × Value)} {st : List Value} {β : Type} {r0 : β} {f : Int32 → Option β} {index : Nat} {a : Option Nat} (hC : Ok C x cc nL rm rt own res) (hw : Cond.fieldLink own index RX0 (TX0 4).2.1 (TX0 4).2.2.1 ∈ BIG) (hdg : decode cc pc = .ok (.getfield index, 3)) (h : (gI 0 4 M a).bind f = some r0)
    (kk : ∀ v, gI 0 4 M a = some v → f v = some r0 → J C ce sl M (pc + 3) lv (.int v :: st)) : J C ce sl M pc lv (va_rf a :: st) := by
  obtain ⟨v, hv, hf⟩ := bnd h
  have kk := kk v hv hf
  obtain ⟨i, rfl, hv2⟩ := bnd hv
  split at hv2
  case isFalse => cases hv2
  case isTrue hi =>
  cases hv2
  obtain ⟨p, l, e, R, s, m, args, below, meth, c, H0, A, Q, nL0, G, ad0, n0⟩ := C
  obtain ⟨hx, hb, hml, hnl, hown, hts, hKK, hH0, hA, hlk, hrt, hR, hQ, hxt⟩ := hC
  intro ad H locs ls hW hAa hag hn hvl hvs hS hl
  have he := pool_at (G := G) (ad := ad) hi.1
  rw [ent_0 hi.2] at he
  have k2 := kk ad H locs ls hW hAa hag hn hvl (vs_c Vok_int (vs_t hvs)) hS hl
  skip
  exact va_get (D := G.1) (ci := 0) (C := RX0) (T := TX0) (N := 6) hx hb hts inB0 hown hKK.1.1 hW.1 i he rfl 4 (by decide) (hts _ hw) (fun _ h9 => h9) rfl hdg k2
theorem J_p0_4 {C : JC} {x : Bool} {cc : ByteArray} {nL : Nat} {rm : Room} {rt : Option FieldType} {own : String} {res : Res} {ce sl : Nat} {M : Mem} {pc : Nat} {lv : List (Nat × Value)} {st : List Value} {β : Type} {r0 : β} {f : Mem → Option β} {index : Nat} {a : Option Nat} {v : Int32} (hC : Ok C x cc nL rm rt own res) (hw : Cond.fieldLink own index RX0 (TX0 4).2.1 (TX0 4).2.2.1 ∈ BIG) (hdg : decode cc pc = .ok (.putfield index, 3)) (h : (pI 0 4 M a v).bind f = some r0)
    (kk : ∀ M', pI 0 4 M a v = some M' → f M' = some r0 → J C ce sl M' (pc + 3) lv st) : J C ce sl M pc lv (.int v :: va_rf a :: st) := by
  obtain ⟨M', hv, hf⟩ := bnd h
  have kk := kk M' hv hf
  obtain ⟨i, rfl, hv2⟩ := bnd hv
  split at hv2
  case isFalse => cases hv2
  case isTrue hi =>
  cases hv2
  obtain ⟨p, l, e, R, s, m, args, below, meth, c, H0, A, Q, nL0, G, ad0, n0⟩ := C
  obtain ⟨hx, hb, hml, hnl, hown, hts, hKK, hH0, hA, hlk, hrt, hR, hQ, hxt⟩ := hC
  intro ad H locs ls hW hAa hag hn hvl hvs hS hl
  have he := pool_at (G := G) (ad := ad) hi.1
  rw [ent_0 hi.2] at he
  have hD := pool_D hW hAa
  have e2 : (pool G ad M).set i (ad i, .inr (0, [re ad (mR M i 0), re ad (mR M i 1), re ad (mR M i 2), .int (mI M i 3), .int v, .int (mI M i 5)])) = pool G ad (sI M i 4 v) := pool_set rfl hi.1 (by rw [ent_0 hi.2]; simp [sI, mI, mJ, mR, up2]) (fun j hj => ent_sI_ne hj)
  skip
  skip
  skip
  exact va_put (D := G.1) (ci := 0) (C := RX0) (T := TX0) (N := 6) (ty := tyX0 4) (v := .int v) hx hb hts inB0 tyX0 tyX0_ok nmX0 hown hKK.1.1 hW.1 hD hS i he rfl 4 (by decide) (hts _ hw) (fun _ h9 => h9) rfl (by decide +kernel) rfl rfl (Nat.le_of_ble_eq_true rfl) hdg (fun H1 locs1 hP1 hD1 hS1 => kk ad H1 locs1 ls ⟨by rw [← e2]; exact hP1, hW.2.1, hW.2.2⟩ hAa hag hn hvl (vs_t (vs_t hvs)) hS1 hl)
theorem J_g0_5 {C : JC} {x : Bool} {cc : ByteArray} {nL : Nat} {rm : Room} {rt : Option FieldType} {own : String} {res : Res} {ce sl : Nat} {M : Mem} {pc : Nat} {lv : List (Nat × Value)} {st : List Value} {β : Type} {r0 : β} {f : Int32 → Option β} {index : Nat} {a : Option Nat} (hC : Ok C x cc nL rm rt own res) (hw : Cond.fieldLink own index RX0 (TX0 5).2.1 (TX0 5).2.2.1 ∈ BIG) (hdg : decode cc pc = .ok (.getfield index, 3)) (h : (gI 0 5 M a).bind f = some r0)
    (kk : ∀ v, gI 0 5 M a = some v → f v = some r0 → J C ce sl M (pc + 3) lv (.int v :: st)) : J C ce sl M pc lv (va_rf a :: st) := by
  obtain ⟨v, hv, hf⟩ := bnd h
  have kk := kk v hv hf
  obtain ⟨i, rfl, hv2⟩ := bnd hv
  split at hv2
  case isFalse => cases hv2
  case isTrue hi =>
  cases hv2
  obtain ⟨p, l, e, R, s, m, args, below, meth, c, H0, A, Q, nL0, G, ad0, n0⟩ := C
  obtain ⟨hx, hb, hml, hnl, hown, hts, hKK, hH0, hA, hlk, hrt, hR, hQ, hxt⟩ := hC
  intro ad H locs ls hW hAa hag hn hvl hvs hS hl
  have he := pool_at (G := G) (ad := ad) hi.1
  rw [ent_0 hi.2] at he
  have k2 := kk ad H locs ls hW hAa hag hn hvl (vs_c Vok_int (vs_t hvs)) hS hl
  skip
  exact va_get (D := G.1) (ci := 0) (C := RX0) (T := TX0) (N := 6) hx hb hts inB0 hown hKK.1.1 hW.1 i he rfl 5 (by decide) (hts _ hw) (fun _ h9 => h9) rfl hdg k2
theorem J_p0_5 {C : JC} {x : Bool} {cc : ByteArray} {nL : Nat} {rm : Room} {rt : Option FieldType} {own : String} {res : Res} {ce sl : Nat} {M : Mem} {pc : Nat} {lv : List (Nat × Value)} {st : List Value} {β : Type} {r0 : β} {f : Mem → Option β} {index : Nat} {a : Option Nat} {v : Int32} (hC : Ok C x cc nL rm rt own res) (hw : Cond.fieldLink own index RX0 (TX0 5).2.1 (TX0 5).2.2.1 ∈ BIG) (hdg : decode cc pc = .ok (.putfield index, 3)) (h : (pI 0 5 M a v).bind f = some r0)
    (kk : ∀ M', pI 0 5 M a v = some M' → f M' = some r0 → J C ce sl M' (pc + 3) lv st) : J C ce sl M pc lv (.int v :: va_rf a :: st) := by
  obtain ⟨M', hv, hf⟩ := bnd h
  have kk := kk M' hv hf
  obtain ⟨i, rfl, hv2⟩ := bnd hv
  split at hv2
  case isFalse => cases hv2
  case isTrue hi =>
  cases hv2
  obtain ⟨p, l, e, R, s, m, args, below, meth, c, H0, A, Q, nL0, G, ad0, n0⟩ := C
  obtain ⟨hx, hb, hml, hnl, hown, hts, hKK, hH0, hA, hlk, hrt, hR, hQ, hxt⟩ := hC
  intro ad H locs ls hW hAa hag hn hvl hvs hS hl
  have he := pool_at (G := G) (ad := ad) hi.1
  rw [ent_0 hi.2] at he
  have hD := pool_D hW hAa
  have e2 : (pool G ad M).set i (ad i, .inr (0, [re ad (mR M i 0), re ad (mR M i 1), re ad (mR M i 2), .int (mI M i 3), .int (mI M i 4), .int v])) = pool G ad (sI M i 5 v) := pool_set rfl hi.1 (by rw [ent_0 hi.2]; simp [sI, mI, mJ, mR, up2]) (fun j hj => ent_sI_ne hj)
  skip
  skip
  skip
  exact va_put (D := G.1) (ci := 0) (C := RX0) (T := TX0) (N := 6) (ty := tyX0 5) (v := .int v) hx hb hts inB0 tyX0 tyX0_ok nmX0 hown hKK.1.1 hW.1 hD hS i he rfl 5 (by decide) (hts _ hw) (fun _ h9 => h9) rfl (by decide +kernel) rfl rfl (Nat.le_of_ble_eq_true rfl) hdg (fun H1 locs1 hP1 hD1 hS1 => kk ad H1 locs1 ls ⟨by rw [← e2]; exact hP1, hW.2.1, hW.2.2⟩ hAa hag hn hvl (vs_t (vs_t hvs)) hS1 hl)
theorem J_g1_0 {C : JC} {x : Bool} {cc : ByteArray} {nL : Nat} {rm : Room} {rt : Option FieldType} {own : String} {res : Res} {ce sl : Nat} {M : Mem} {pc : Nat} {lv : List (Nat × Value)} {st : List Value} {β : Type} {r0 : β} {f : Option Nat → Option β} {index : Nat} {a : Option Nat} (hC : Ok C x cc nL rm rt own res) (hw : Cond.fieldLink own index RX1 (TX1 0).2.1 (TX1 0).2.2.1 ∈ BIG) (hdg : decode cc pc = .ok (.getfield index, 3)) (h : (gR 1 0 M a).bind f = some r0)
    (kk : ∀ v, gR 1 0 M a = some v → f v = some r0 → J C ce sl M (pc + 3) lv (va_rf v :: st)) : J C ce sl M pc lv (va_rf a :: st) := by
  obtain ⟨v, hv, hf⟩ := bnd h
  have kk := kk v hv hf
  obtain ⟨i, rfl, hv2⟩ := bnd hv
  split at hv2
  case isFalse => cases hv2
  case isTrue hi =>
  cases hv2
  obtain ⟨p, l, e, R, s, m, args, below, meth, c, H0, A, Q, nL0, G, ad0, n0⟩ := C
  obtain ⟨hx, hb, hml, hnl, hown, hts, hKK, hH0, hA, hlk, hrt, hR, hQ, hxt⟩ := hC
  intro ad H locs ls hW hAa hag hn hvl hvs hS hl
  have he := pool_at (G := G) (ad := ad) hi.1
  rw [ent_1 hi.2] at he
  have k2 := kk ad H locs ls hW hAa hag hn hvl (vs_c (Vok_rf (fun j e => hW.2.2 _ _ j hi.1 e)) (vs_t hvs)) hS hl
  rw [List.map_cons, phys_rf] at k2
  exact va_get (D := G.1) (ci := 1) (C := RX1) (T := TX1) (N := 5) hx hb hts inB1 hown hKK.1.1 hW.1 i he rfl 0 (by decide) (hts _ hw) (fun _ h9 => h9) rfl hdg k2
theorem J_p1_0 {C : JC} {x : Bool} {cc : ByteArray} {nL : Nat} {rm : Room} {rt : Option FieldType} {own : String} {res : Res} {ce sl : Nat} {M : Mem} {pc : Nat} {lv : List (Nat × Value)} {st : List Value} {β : Type} {r0 : β} {f : Mem → Option β} {index : Nat} {a : Option Nat} {v : Option Nat} (hC : Ok C x cc nL rm rt own res) (hin : isInit C) (hdc : (TX1 0).1 = own) (hw : Cond.fieldLink own index RX1 (TX1 0).2.1 (TX1 0).2.2.1 ∈ BIG) (hdg : decode cc pc = .ok (.putfield index, 3)) (h : (pR 1 0 M a v).bind f = some r0)
    (kk : ∀ M', pR 1 0 M a v = some M' → f M' = some r0 → J C ce sl M' (pc + 3) lv st) : J C ce sl M pc lv (va_rf v :: va_rf a :: st) := by
  obtain ⟨M', hv, hf⟩ := bnd h
  have kk := kk M' hv hf
  obtain ⟨i, rfl, hv2⟩ := bnd hv
  split at hv2
  case isFalse => cases hv2
  case isTrue hi =>
  cases hv2
  obtain ⟨p, l, e, R, s, m, args, below, meth, c, H0, A, Q, nL0, G, ad0, n0⟩ := C
  obtain ⟨hx, hb, hml, hnl, hown, hts, hKK, hH0, hA, hlk, hrt, hR, hQ, hxt⟩ := hC
  intro ad H locs ls hW hAa hag hn hvl hvs hS hl
  have he := pool_at (G := G) (ad := ad) hi.1
  rw [ent_1 hi.2] at he
  have hD := pool_D hW hAa
  have e2 : (pool G ad M).set i (ad i, .inr (1, [re ad v, re ad (mR M i 1), .int (mI M i 2), .int (mI M i 3), .int (mI M i 4)])) = pool G ad (sR M i 0 v) := pool_set rfl hi.1 (by rw [ent_1 hi.2]; simp [sR, mI, mJ, mR, up2]) (fun j hj => ent_sR_ne hj)
  have e3 : phys ad (va_rf v) = re ad v := phys_rf ad v
  rw [List.map_cons, e3]
  skip
  exact va_putF (D := G.1) (ci := 1) (C := RX1) (T := TX1) (N := 5) (ty := tyX1 0) (v := re ad v) hx hb hts inB1 tyX1 tyX1_ok nmX1 hown hKK.1.1 hW.1 hD hS i he rfl 0 (by decide) (hts _ hw) (fun _ h9 => h9) rfl hin hdc (by decide +kernel) (by cases v <;> rfl) (by cases v <;> rfl) (Nat.le_of_ble_eq_true rfl) hdg (fun H1 locs1 hP1 hD1 hS1 => kk ad H1 locs1 ls ⟨by rw [← e2]; exact hP1, hW.2.1, wf_sR hW.2.2 (vs_h hvs)⟩ hAa hag hn hvl (vs_t (vs_t hvs)) hS1 hl)
theorem J_g1_1 {C : JC} {x : Bool} {cc : ByteArray} {nL : Nat} {rm : Room} {rt : Option FieldType} {own : String} {res : Res} {ce sl : Nat} {M : Mem} {pc : Nat} {lv : List (Nat × Value)} {st : List Value} {β : Type} {r0 : β} {f : Option Nat → Option β} {index : Nat} {a : Option Nat} (hC : Ok C x cc nL rm rt own res) (hw : Cond.fieldLink own index RX1 (TX1 1).2.1 (TX1 1).2.2.1 ∈ BIG) (hdg : decode cc pc = .ok (.getfield index, 3)) (h : (gR 1 1 M a).bind f = some r0)
    (kk : ∀ v, gR 1 1 M a = some v → f v = some r0 → J C ce sl M (pc + 3) lv (va_rf v :: st)) : J C ce sl M pc lv (va_rf a :: st) := by
  obtain ⟨v, hv, hf⟩ := bnd h
  have kk := kk v hv hf
  obtain ⟨i, rfl, hv2⟩ := bnd hv
  split at hv2
  case isFalse => cases hv2
  case isTrue hi =>
  cases hv2
  obtain ⟨p, l, e, R, s, m, args, below, meth, c, H0, A, Q, nL0, G, ad0, n0⟩ := C
  obtain ⟨hx, hb, hml, hnl, hown, hts, hKK, hH0, hA, hlk, hrt, hR, hQ, hxt⟩ := hC
  intro ad H locs ls hW hAa hag hn hvl hvs hS hl
  have he := pool_at (G := G) (ad := ad) hi.1
  rw [ent_1 hi.2] at he
  have k2 := kk ad H locs ls hW hAa hag hn hvl (vs_c (Vok_rf (fun j e => hW.2.2 _ _ j hi.1 e)) (vs_t hvs)) hS hl
  rw [List.map_cons, phys_rf] at k2
  exact va_get (D := G.1) (ci := 1) (C := RX1) (T := TX1) (N := 5) hx hb hts inB1 hown hKK.1.1 hW.1 i he rfl 1 (by decide) (hts _ hw) (fun _ h9 => h9) rfl hdg k2
theorem J_p1_1 {C : JC} {x : Bool} {cc : ByteArray} {nL : Nat} {rm : Room} {rt : Option FieldType} {own : String} {res : Res} {ce sl : Nat} {M : Mem} {pc : Nat} {lv : List (Nat × Value)} {st : List Value} {β : Type} {r0 : β} {f : Mem → Option β} {index : Nat} {a : Option Nat} {v : Option Nat} (hC : Ok C x cc nL rm rt own res) (hin : isInit C) (hdc : (TX1 1).1 = own) (hw : Cond.fieldLink own index RX1 (TX1 1).2.1 (TX1 1).2.2.1 ∈ BIG) (hdg : decode cc pc = .ok (.putfield index, 3)) (h : (pR 1 1 M a v).bind f = some r0)
    (kk : ∀ M', pR 1 1 M a v = some M' → f M' = some r0 → J C ce sl M' (pc + 3) lv st) : J C ce sl M pc lv (va_rf v :: va_rf a :: st) := by
  obtain ⟨M', hv, hf⟩ := bnd h
  have kk := kk M' hv hf
  obtain ⟨i, rfl, hv2⟩ := bnd hv
  split at hv2
  case isFalse => cases hv2
  case isTrue hi =>
  cases hv2
  obtain ⟨p, l, e, R, s, m, args, below, meth, c, H0, A, Q, nL0, G, ad0, n0⟩ := C
  obtain ⟨hx, hb, hml, hnl, hown, hts, hKK, hH0, hA, hlk, hrt, hR, hQ, hxt⟩ := hC
  intro ad H locs ls hW hAa hag hn hvl hvs hS hl
  have he := pool_at (G := G) (ad := ad) hi.1
  rw [ent_1 hi.2] at he
  have hD := pool_D hW hAa
  have e2 : (pool G ad M).set i (ad i, .inr (1, [re ad (mR M i 0), re ad v, .int (mI M i 2), .int (mI M i 3), .int (mI M i 4)])) = pool G ad (sR M i 1 v) := pool_set rfl hi.1 (by rw [ent_1 hi.2]; simp [sR, mI, mJ, mR, up2]) (fun j hj => ent_sR_ne hj)
  have e3 : phys ad (va_rf v) = re ad v := phys_rf ad v
  rw [List.map_cons, e3]
  skip
  exact va_putF (D := G.1) (ci := 1) (C := RX1) (T := TX1) (N := 5) (ty := tyX1 1) (v := re ad v) hx hb hts inB1 tyX1 tyX1_ok nmX1 hown hKK.1.1 hW.1 hD hS i he rfl 1 (by decide) (hts _ hw) (fun _ h9 => h9) rfl hin hdc (by decide +kernel) (by cases v <;> rfl) (by cases v <;> rfl) (Nat.le_of_ble_eq_true rfl) hdg (fun H1 locs1 hP1 hD1 hS1 => kk ad H1 locs1 ls ⟨by rw [← e2]; exact hP1, hW.2.1, wf_sR hW.2.2 (vs_h hvs)⟩ hAa hag hn hvl (vs_t (vs_t hvs)) hS1 hl)
theorem J_g1_2 {C : JC} {x : Bool} {cc : ByteArray} {nL : Nat} {rm : Room} {rt : Option FieldType} {own : String} {res : Res} {ce sl : Nat} {M : Mem} {pc : Nat} {lv : List (Nat × Value)} {st : List Value} {β : Type} {r0 : β} {f : Int32 → Option β} {index : Nat} {a : Option Nat} (hC : Ok C x cc nL rm rt own res) (hw : Cond.fieldLink own index RX1 (TX1 2).2.1 (TX1 2).2.2.1 ∈ BIG) (hdg : decode cc pc = .ok (.getfield index, 3)) (h : (gI 1 2 M a).bind f = some r0)
    (kk : ∀ v, gI 1 2 M a = some v → f v = some r0 → J C ce sl M (pc + 3) lv (.int v :: st)) : J C ce sl M pc lv (va_rf a :: st) := by
  obtain ⟨v, hv, hf⟩ := bnd h
  have kk := kk v hv hf
  obtain ⟨i, rfl, hv2⟩ := bnd hv
  split at hv2
  case isFalse => cases hv2
  case isTrue hi =>
  cases hv2
  obtain ⟨p, l, e, R, s, m, args, below, meth, c, H0, A, Q, nL0, G, ad0, n0⟩ := C
  obtain ⟨hx, hb, hml, hnl, hown, hts, hKK, hH0, hA, hlk, hrt, hR, hQ, hxt⟩ := hC
  intro ad H locs ls hW hAa hag hn hvl hvs hS hl
  have he := pool_at (G := G) (ad := ad) hi.1
  rw [ent_1 hi.2] at he
  have k2 := kk ad H locs ls hW hAa hag hn hvl (vs_c Vok_int (vs_t hvs)) hS hl
  skip
  exact va_get (D := G.1) (ci := 1) (C := RX1) (T := TX1) (N := 5) hx hb hts inB1 hown hKK.1.1 hW.1 i he rfl 2 (by decide) (hts _ hw) (fun _ h9 => h9) rfl hdg k2
theorem J_p1_2 {C : JC} {x : Bool} {cc : ByteArray} {nL : Nat} {rm : Room} {rt : Option FieldType} {own : String} {res : Res} {ce sl : Nat} {M : Mem} {pc : Nat} {lv : List (Nat × Value)} {st : List Value} {β : Type} {r0 : β} {f : Mem → Option β} {index : Nat} {a : Option Nat} {v : Int32} (hC : Ok C x cc nL rm rt own res) (hw : Cond.fieldLink own index RX1 (TX1 2).2.1 (TX1 2).2.2.1 ∈ BIG) (hdg : decode cc pc = .ok (.putfield index, 3)) (h : (pI 1 2 M a v).bind f = some r0)
    (kk : ∀ M', pI 1 2 M a v = some M' → f M' = some r0 → J C ce sl M' (pc + 3) lv st) : J C ce sl M pc lv (.int v :: va_rf a :: st) := by
  obtain ⟨M', hv, hf⟩ := bnd h
  have kk := kk M' hv hf
  obtain ⟨i, rfl, hv2⟩ := bnd hv
  split at hv2
  case isFalse => cases hv2
  case isTrue hi =>
  cases hv2
  obtain ⟨p, l, e, R, s, m, args, below, meth, c, H0, A, Q, nL0, G, ad0, n0⟩ := C
  obtain ⟨hx, hb, hml, hnl, hown, hts, hKK, hH0, hA, hlk, hrt, hR, hQ, hxt⟩ := hC
  intro ad H locs ls hW hAa hag hn hvl hvs hS hl
  have he := pool_at (G := G) (ad := ad) hi.1
  rw [ent_1 hi.2] at he
  have hD := pool_D hW hAa
  have e2 : (pool G ad M).set i (ad i, .inr (1, [re ad (mR M i 0), re ad (mR M i 1), .int v, .int (mI M i 3), .int (mI M i 4)])) = pool G ad (sI M i 2 v) := pool_set rfl hi.1 (by rw [ent_1 hi.2]; simp [sI, mI, mJ, mR, up2]) (fun j hj => ent_sI_ne hj)
  skip
  skip
  skip
  exact va_put (D := G.1) (ci := 1) (C := RX1) (T := TX1) (N := 5) (ty := tyX1 2) (v := .int v) hx hb hts inB1 tyX1 tyX1_ok nmX1 hown hKK.1.1 hW.1 hD hS i he rfl 2 (by decide) (hts _ hw) (fun _ h9 => h9) rfl (by decide +kernel) rfl rfl (Nat.le_of_ble_eq_true rfl) hdg (fun H1 locs1 hP1 hD1 hS1 => kk ad H1 locs1 ls ⟨by rw [← e2]; exact hP1, hW.2.1, hW.2.2⟩ hAa hag hn hvl (vs_t (vs_t hvs)) hS1 hl)
theorem J_g1_3 {C : JC} {x : Bool} {cc : ByteArray} {nL : Nat} {rm : Room} {rt : Option FieldType} {own : String} {res : Res} {ce sl : Nat} {M : Mem} {pc : Nat} {lv : List (Nat × Value)} {st : List Value} {β : Type} {r0 : β} {f : Int32 → Option β} {index : Nat} {a : Option Nat} (hC : Ok C x cc nL rm rt own res) (hw : Cond.fieldLink own index RX1 (TX1 3).2.1 (TX1 3).2.2.1 ∈ BIG) (hdg : decode cc pc = .ok (.getfield index, 3)) (h : (gI 1 3 M a).bind f = some r0)
    (kk : ∀ v, gI 1 3 M a = some v → f v = some r0 → J C ce sl M (pc + 3) lv (.int v :: st)) : J C ce sl M pc lv (va_rf a :: st) := by
  obtain ⟨v, hv, hf⟩ := bnd h
  have kk := kk v hv hf
  obtain ⟨i, rfl, hv2⟩ := bnd hv
  split at hv2
  case isFalse => cases hv2
  case isTrue hi =>
  cases hv2
  obtain ⟨p, l, e, R, s, m, args, below, meth, c, H0, A, Q, nL0, G, ad0, n0⟩ := C
  obtain ⟨hx, hb, hml, hnl, hown, hts, hKK, hH0, hA, hlk, hrt, hR, hQ, hxt⟩ := hC
  intro ad H locs ls hW hAa hag hn hvl hvs hS hl
  have he := pool_at (G := G) (ad := ad) hi.1
  rw [ent_1 hi.2] at he
  have k2 := kk ad H locs ls hW hAa hag hn hvl (vs_c Vok_int (vs_t hvs)) hS hl
  skip
  exact va_get (D := G.1) (ci := 1) (C := RX1) (T := TX1) (N := 5) hx hb hts inB1 hown hKK.1.1 hW.1 i he rfl 3 (by decide) (hts _ hw) (fun _ h9 => h9) rfl hdg k2
theorem J_p1_3 {C : JC} {x : Bool} {cc : ByteArray} {nL : Nat} {rm : Room} {rt : Option FieldType} {own : String} {res : Res} {ce sl : Nat} {M : Mem} {pc : Nat} {lv : List (Nat × Value)} {st : List Value} {β : Type} {r0 : β} {f : Mem → Option β} {index : Nat} {a : Option Nat} {v : Int32} (hC : Ok C x cc nL rm rt own res) (hw : Cond.fieldLink own index RX1 (TX1 3).2.1 (TX1 3).2.2.1 ∈ BIG) (hdg : decode cc pc = .ok (.putfield index, 3)) (h : (pI 1 3 M a v).bind f = some r0)
    (kk : ∀ M', pI 1 3 M a v = some M' → f M' = some r0 → J C ce sl M' (pc + 3) lv st) : J C ce sl M pc lv (.int v :: va_rf a :: st) := by
  obtain ⟨M', hv, hf⟩ := bnd h
  have kk := kk M' hv hf
  obtain ⟨i, rfl, hv2⟩ := bnd hv
  split at hv2
  case isFalse => cases hv2
  case isTrue hi =>
  cases hv2
  obtain ⟨p, l, e, R, s, m, args, below, meth, c, H0, A, Q, nL0, G, ad0, n0⟩ := C
  obtain ⟨hx, hb, hml, hnl, hown, hts, hKK, hH0, hA, hlk, hrt, hR, hQ, hxt⟩ := hC
  intro ad H locs ls hW hAa hag hn hvl hvs hS hl
  have he := pool_at (G := G) (ad := ad) hi.1
  rw [ent_1 hi.2] at he
  have hD := pool_D hW hAa
  have e2 : (pool G ad M).set i (ad i, .inr (1, [re ad (mR M i 0), re ad (mR M i 1), .int (mI M i 2), .int v, .int (mI M i 4)])) = pool G ad (sI M i 3 v) := pool_set rfl hi.1 (by rw [ent_1 hi.2]; simp [sI, mI, mJ, mR, up2]) (fun j hj => ent_sI_ne hj)
  skip
  skip
  skip
  exact va_put (D := G.1) (ci := 1) (C := RX1) (T := TX1) (N := 5) (ty := tyX1 3) (v := .int v) hx hb hts inB1 tyX1 tyX1_ok nmX1 hown hKK.1.1 hW.1 hD hS i he rfl 3 (by decide) (hts _ hw) (fun _ h9 => h9) rfl (by decide +kernel) rfl rfl (Nat.le_of_ble_eq_true rfl) hdg (fun H1 locs1 hP1 hD1 hS1 => kk ad H1 locs1 ls ⟨by rw [← e2]; exact hP1, hW.2.1, hW.2.2⟩ hAa hag hn hvl (vs_t (vs_t hvs)) hS1 hl)
theorem J_g1_4 {C : JC} {x : Bool} {cc : ByteArray} {nL : Nat} {rm : Room} {rt : Option FieldType} {own : String} {res : Res} {ce sl : Nat} {M : Mem} {pc : Nat} {lv : List (Nat × Value)} {st : List Value} {β : Type} {r0 : β} {f : Int32 → Option β} {index : Nat} {a : Option Nat} (hC : Ok C x cc nL rm rt own res) (hw : Cond.fieldLink own index RX1 (TX1 4).2.1 (TX1 4).2.2.1 ∈ BIG) (hdg : decode cc pc = .ok (.getfield index, 3)) (h : (gI 1 4 M a).bind f = some r0)
    (kk : ∀ v, gI 1 4 M a = some v → f v = some r0 → J C ce sl M (pc + 3) lv (.int v :: st)) : J C ce sl M pc lv (va_rf a :: st) := by
  obtain ⟨v, hv, hf⟩ := bnd h
  have kk := kk v hv hf
  obtain ⟨i, rfl, hv2⟩ := bnd hv
  split at hv2
  case isFalse => cases hv2
  case isTrue hi =>
  cases hv2
  obtain ⟨p, l, e, R, s, m, args, below, meth, c, H0, A, Q, nL0, G, ad0, n0⟩ := C
  obtain ⟨hx, hb, hml, hnl, hown, hts, hKK, hH0, hA, hlk, hrt, hR, hQ, hxt⟩ := hC
  intro ad H locs ls hW hAa hag hn hvl hvs hS hl
  have he := pool_at (G := G) (ad := ad) hi.1
  rw [ent_1 hi.2] at he
  have k2 := kk ad H locs ls hW hAa hag hn hvl (vs_c Vok_int (vs_t hvs)) hS hl
  skip
  exact va_get (D := G.1) (ci := 1) (C := RX1) (T := TX1) (N := 5) hx hb hts inB1 hown hKK.1.1 hW.1 i he rfl 4 (by decide) (hts _ hw) (fun _ h9 => h9) rfl hdg k2
theorem J_p1_4 {C : JC} {x : Bool} {cc : ByteArray} {nL : Nat} {rm : Room} {rt : Option FieldType} {own : String} {res : Res} {ce sl : Nat} {M : Mem} {pc : Nat} {lv : List (Nat × Value)} {st : List Value} {β : Type} {r0 : β} {f : Mem → Option β} {index : Nat} {a : Option Nat} {v : Int32} (hC : Ok C x cc nL rm rt own res) (hw : Cond.fieldLink own index RX1 (TX1 4).2.1 (TX1 4).2.2.1 ∈ BIG) (hdg : decode cc pc = .ok (.putfield index, 3)) (h : (pI 1 4 M a v).bind f = some r0)
    (kk : ∀ M', pI 1 4 M a v = some M' → f M' = some r0 → J C ce sl M' (pc + 3) lv st) : J C ce sl M pc lv (.int v :: va_rf a :: st) := by
  obtain ⟨M', hv, hf⟩ := bnd h
  have kk := kk M' hv hf
  obtain ⟨i, rfl, hv2⟩ := bnd hv
  split at hv2
  case isFalse => cases hv2
  case isTrue hi =>
  cases hv2
  obtain ⟨p, l, e, R, s, m, args, below, meth, c, H0, A, Q, nL0, G, ad0, n0⟩ := C
  obtain ⟨hx, hb, hml, hnl, hown, hts, hKK, hH0, hA, hlk, hrt, hR, hQ, hxt⟩ := hC
  intro ad H locs ls hW hAa hag hn hvl hvs hS hl
  have he := pool_at (G := G) (ad := ad) hi.1
  rw [ent_1 hi.2] at he
  have hD := pool_D hW hAa
  have e2 : (pool G ad M).set i (ad i, .inr (1, [re ad (mR M i 0), re ad (mR M i 1), .int (mI M i 2), .int (mI M i 3), .int v])) = pool G ad (sI M i 4 v) := pool_set rfl hi.1 (by rw [ent_1 hi.2]; simp [sI, mI, mJ, mR, up2]) (fun j hj => ent_sI_ne hj)
  skip
  skip
  skip
  exact va_put (D := G.1) (ci := 1) (C := RX1) (T := TX1) (N := 5) (ty := tyX1 4) (v := .int v) hx hb hts inB1 tyX1 tyX1_ok nmX1 hown hKK.1.1 hW.1 hD hS i he rfl 4 (by decide) (hts _ hw) (fun _ h9 => h9) rfl (by decide +kernel) rfl rfl (Nat.le_of_ble_eq_true rfl) hdg (fun H1 locs1 hP1 hD1 hS1 => kk ad H1 locs1 ls ⟨by rw [← e2]; exact hP1, hW.2.1, hW.2.2⟩ hAa hag hn hvl (vs_t (vs_t hvs)) hS1 hl)
theorem J_g2_0 {C : JC} {x : Bool} {cc : ByteArray} {nL : Nat} {rm : Room} {rt : Option FieldType} {own : String} {res : Res} {ce sl : Nat} {M : Mem} {pc : Nat} {lv : List (Nat × Value)} {st : List Value} {β : Type} {r0 : β} {f : Option Nat → Option β} {index : Nat} {a : Option Nat} (hC : Ok C x cc nL rm rt own res) (hw : Cond.fieldLink own index RX2 (TX2 0).2.1 (TX2 0).2.2.1 ∈ BIG) (hdg : decode cc pc = .ok (.getfield index, 3)) (h : (gR 2 0 M a).bind f = some r0)
    (kk : ∀ v, gR 2 0 M a = some v → f v = some r0 → J C ce sl M (pc + 3) lv (va_rf v :: st)) : J C ce sl M pc lv (va_rf a :: st) := by
  obtain ⟨v, hv, hf⟩ := bnd h
  have kk := kk v hv hf
  obtain ⟨i, rfl, hv2⟩ := bnd hv
  split at hv2
  case isFalse => cases hv2
  case isTrue hi =>
  cases hv2
  obtain ⟨p, l, e, R, s, m, args, below, meth, c, H0, A, Q, nL0, G, ad0, n0⟩ := C
  obtain ⟨hx, hb, hml, hnl, hown, hts, hKK, hH0, hA, hlk, hrt, hR, hQ, hxt⟩ := hC
  intro ad H locs ls hW hAa hag hn hvl hvs hS hl
  have he := pool_at (G := G) (ad := ad) hi.1
  rw [ent_2 hi.2] at he
  have k2 := kk ad H locs ls hW hAa hag hn hvl (vs_c (Vok_rf (fun j e => hW.2.2 _ _ j hi.1 e)) (vs_t hvs)) hS hl
  rw [List.map_cons, phys_rf] at k2
  exact va_get (D := G.1) (ci := 2) (C := RX2) (T := TX2) (N := 9) hx hb hts inB2 hown hKK.1.1 hW.1 i he rfl 0 (by decide) (hts _ hw) (fun _ h9 => h9) rfl hdg k2
theorem J_p2_0 {C : JC} {x : Bool} {cc : ByteArray} {nL : Nat} {rm : Room} {rt : Option FieldType} {own : String} {res : Res} {ce sl : Nat} {M : Mem} {pc : Nat} {lv : List (Nat × Value)} {st : List Value} {β : Type} {r0 : β} {f : Mem → Option β} {index : Nat} {a : Option Nat} {v : Option Nat} (hC : Ok C x cc nL rm rt own res) (hin : isInit C) (hdc : (TX2 0).1 = own) (hw : Cond.fieldLink own index RX2 (TX2 0).2.1 (TX2 0).2.2.1 ∈ BIG) (hdg : decode cc pc = .ok (.putfield index, 3)) (h : (pR 2 0 M a v).bind f = some r0)
    (kk : ∀ M', pR 2 0 M a v = some M' → f M' = some r0 → J C ce sl M' (pc + 3) lv st) : J C ce sl M pc lv (va_rf v :: va_rf a :: st) := by
  obtain ⟨M', hv, hf⟩ := bnd h
  have kk := kk M' hv hf
  obtain ⟨i, rfl, hv2⟩ := bnd hv
  split at hv2
  case isFalse => cases hv2
  case isTrue hi =>
  cases hv2
  obtain ⟨p, l, e, R, s, m, args, below, meth, c, H0, A, Q, nL0, G, ad0, n0⟩ := C
  obtain ⟨hx, hb, hml, hnl, hown, hts, hKK, hH0, hA, hlk, hrt, hR, hQ, hxt⟩ := hC
  intro ad H locs ls hW hAa hag hn hvl hvs hS hl
  have he := pool_at (G := G) (ad := ad) hi.1
  rw [ent_2 hi.2] at he
  have hD := pool_D hW hAa
  have e2 : (pool G ad M).set i (ad i, .inr (2, [re ad v, re ad (mR M i 1), .int (mI M i 2), re ad (mR M i 3), re ad (mR M i 4), re ad (mR M i 5), .int (mI M i 6), re ad (mR M i 7), re ad (mR M i 8)])) = pool G ad (sR M i 0 v) := pool_set rfl hi.1 (by rw [ent_2 hi.2]; simp [sR, mI, mJ, mR, up2]) (fun j hj => ent_sR_ne hj)
  have e3 : phys ad (va_rf v) = re ad v := phys_rf ad v
  rw [List.map_cons, e3]
  skip
  exact va_putF (D := G.1) (ci := 2) (C := RX2) (T := TX2) (N := 9) (ty := tyX2 0) (v := re ad v) hx hb hts inB2 tyX2 tyX2_ok nmX2 hown hKK.1.1 hW.1 hD hS i he rfl 0 (by decide) (hts _ hw) (fun _ h9 => h9) rfl hin hdc (by decide +kernel) (by cases v <;> rfl) (by cases v <;> rfl) (Nat.le_of_ble_eq_true rfl) hdg (fun H1 locs1 hP1 hD1 hS1 => kk ad H1 locs1 ls ⟨by rw [← e2]; exact hP1, hW.2.1, wf_sR hW.2.2 (vs_h hvs)⟩ hAa hag hn hvl (vs_t (vs_t hvs)) hS1 hl)
theorem J_g2_1 {C : JC} {x : Bool} {cc : ByteArray} {nL : Nat} {rm : Room} {rt : Option FieldType} {own : String} {res : Res} {ce sl : Nat} {M : Mem} {pc : Nat} {lv : List (Nat × Value)} {st : List Value} {β : Type} {r0 : β} {f : Option Nat → Option β} {index : Nat} {a : Option Nat} (hC : Ok C x cc nL rm rt own res) (hw : Cond.fieldLink own index RX2 (TX2 1).2.1 (TX2 1).2.2.1 ∈ BIG) (hdg : decode cc pc = .ok (.getfield index, 3)) (h : (gR 2 1 M a).bind f = some r0)
    (kk : ∀ v, gR 2 1 M a = some v → f v = some r0 → J C ce sl M (pc + 3) lv (va_rf v :: st)) : J C ce sl M pc lv (va_rf a :: st) := by
  obtain ⟨v, hv, hf⟩ := bnd h
  have kk := kk v hv hf
  obtain ⟨i, rfl, hv2⟩ := bnd hv
  split at hv2
  case isFalse => cases hv2
  case isTrue hi =>
  cases hv2
  obtain ⟨p, l, e, R, s, m, args, below, meth, c, H0, A, Q, nL0, G, ad0, n0⟩ := C
  obtain ⟨hx, hb, hml, hnl, hown, hts, hKK, hH0, hA, hlk, hrt, hR, hQ, hxt⟩ := hC
  intro ad H locs ls hW hAa hag hn hvl hvs hS hl
  have he := pool_at (G := G) (ad := ad) hi.1
  rw [ent_2 hi.2] at he
  have k2 := kk ad H locs ls hW hAa hag hn hvl (vs_c (Vok_rf (fun j e => hW.2.2 _ _ j hi.1 e)) (vs_t hvs)) hS hl
  rw [List.map_cons, phys_rf] at k2
  exact va_get (D := G.1) (ci := 2) (C := RX2) (T := TX2) (N := 9) hx hb hts inB2 hown hKK.1.1 hW.1 i he rfl 1 (by decide) (hts _ hw) (fun _ h9 => h9) rfl hdg k2
theorem J_p2_1 {C : JC} {x : Bool} {cc : ByteArray} {nL : Nat} {rm : Room} {rt : Option FieldType} {own : String} {res : Res} {ce sl : Nat} {M : Mem} {pc : Nat} {lv : List (Nat × Value)} {st : List Value} {β : Type} {r0 : β} {f : Mem → Option β} {index : Nat} {a : Option Nat} {v : Option Nat} (hC : Ok C x cc nL rm rt own res) (hin : isInit C) (hdc : (TX2 1).1 = own) (hw : Cond.fieldLink own index RX2 (TX2 1).2.1 (TX2 1).2.2.1 ∈ BIG) (hdg : decode cc pc = .ok (.putfield index, 3)) (h : (pR 2 1 M a v).bind f = some r0)
    (kk : ∀ M', pR 2 1 M a v = some M' → f M' = some r0 → J C ce sl M' (pc + 3) lv st) : J C ce sl M pc lv (va_rf v :: va_rf a :: st) := by
  obtain ⟨M', hv, hf⟩ := bnd h
  have kk := kk M' hv hf
  obtain ⟨i, rfl, hv2⟩ := bnd hv
  split at hv2
  case isFalse => cases hv2
  case isTrue hi =>
  cases hv2
  obtain ⟨p, l, e, R, s, m, args, below, meth, c, H0, A, Q, nL0, G, ad0, n0⟩ := C
  obtain ⟨hx, hb, hml, hnl, hown, hts, hKK, hH0, hA, hlk, hrt, hR, hQ, hxt⟩ := hC
  intro ad H locs ls hW hAa hag hn hvl hvs hS hl
  have he := pool_at (G := G) (ad := ad) hi.1
  rw [ent_2 hi.2] at he
  have hD := pool_D hW hAa
  have e2 : (pool G ad M).set i (ad i, .inr (2, [re ad (mR M i 0), re ad v, .int (mI M i 2), re ad (mR M i 3), re ad (mR M i 4), re ad (mR M i 5), .int (mI M i 6), re ad (mR M i 7), re ad (mR M i 8)])) = pool G ad (sR M i 1 v) := pool_set rfl hi.1 (by rw [ent_2 hi.2]; simp [sR, mI, mJ, mR, up2]) (fun j hj => ent_sR_ne hj)
  have e3 : phys ad (va_rf v) = re ad v := phys_rf ad v
  rw [List.map_cons, e3]
  skip
  exact va_putF (D := G.1) (ci := 2) (C := RX2) (T := TX2) (N := 9) (ty := tyX2 1) (v := re ad v) hx hb hts inB2 tyX2 tyX2_ok nmX2 hown hKK.1.1 hW.1 hD hS i he rfl 1 (by decide) (hts _ hw) (fun _ h9 => h9) rfl hin hdc (by decide +kernel) (by cases v <;> rfl) (by cases v <;> rfl) (Nat.le_of_ble_eq_true rfl) hdg (fun H1 locs1 hP1 hD1 hS1 => kk ad H1 locs1 ls ⟨by rw [← e2]; exact hP1, hW.2.1, wf_sR hW.2.2 (vs_h hvs)⟩ hAa hag hn hvl (vs_t (vs_t hvs)) hS1 hl)
theorem J_g2_2 {C : JC} {x : Bool} {cc : ByteArray} {nL : Nat} {rm : Room} {rt : Option FieldType} {own : String} {res : Res} {ce sl : Nat} {M : Mem} {pc : Nat} {lv : List (Nat × Value)} {st : List Value} {β : Type} {r0 : β} {f : Int32 → Option β} {index : Nat} {a : Option Nat} (hC : Ok C x cc nL rm rt own res) (hw : Cond.fieldLink own index RX2 (TX2 2).2.1 (TX2 2).2.2.1 ∈ BIG) (hdg : decode cc pc = .ok (.getfield index, 3)) (h : (gI 2 2 M a).bind f = some r0)
    (kk : ∀ v, gI 2 2 M a = some v → f v = some r0 → J C ce sl M (pc + 3) lv (.int v :: st)) : J C ce sl M pc lv (va_rf a :: st) := by
  obtain ⟨v, hv, hf⟩ := bnd h
  have kk := kk v hv hf
  obtain ⟨i, rfl, hv2⟩ := bnd hv
  split at hv2
  case isFalse => cases hv2
  case isTrue hi =>
  cases hv2
  obtain ⟨p, l, e, R, s, m, args, below, meth, c, H0, A, Q, nL0, G, ad0, n0⟩ := C
  obtain ⟨hx, hb, hml, hnl, hown, hts, hKK, hH0, hA, hlk, hrt, hR, hQ, hxt⟩ := hC
  intro ad H locs ls hW hAa hag hn hvl hvs hS hl
  have he := pool_at (G := G) (ad := ad) hi.1
  rw [ent_2 hi.2] at he
  have k2 := kk ad H locs ls hW hAa hag hn hvl (vs_c Vok_int (vs_t hvs)) hS hl
  skip
  exact va_get (D := G.1) (ci := 2) (C := RX2) (T := TX2) (N := 9) hx hb hts inB2 hown hKK.1.1 hW.1 i he rfl 2 (by decide) (hts _ hw) (fun _ h9 => h9) rfl hdg k2
theorem J_p2_2 {C : JC} {x : Bool} {cc : ByteArray} {nL : Nat} {rm : Room} {rt : Option FieldType} {own : String} {res : Res} {ce sl : Nat} {M : Mem} {pc : Nat} {lv : List (Nat × Value)} {st : List Value} {β : Type} {r0 : β} {f : Mem → Option β} {index : Nat} {a : Option Nat} {v : Int32} (hC : Ok C x cc nL rm rt own res) (hw : Cond.fieldLink own index RX2 (TX2 2).2.1 (TX2 2).2.2.1 ∈ BIG) (hdg : decode cc pc = .ok (.putfield index, 3)) (h : (pI 2 2 M a v).bind f = some r0)
    (kk : ∀ M', pI 2 2 M a v = some M' → f M' = some r0 → J C ce sl M' (pc + 3) lv st) : J C ce sl M pc lv (.int v :: va_rf a :: st) := by
  obtain ⟨M', hv, hf⟩ := bnd h
  have kk := kk M' hv hf
  obtain ⟨i, rfl, hv2⟩ := bnd hv
  split at hv2
  case isFalse => cases hv2
  case isTrue hi =>
  cases hv2
  obtain ⟨p, l, e, R, s, m, args, below, meth, c, H0, A, Q, nL0, G, ad0, n0⟩ := C
  obtain ⟨hx, hb, hml, hnl, hown, hts, hKK, hH0, hA, hlk, hrt, hR, hQ, hxt⟩ := hC
  intro ad H locs ls hW hAa hag hn hvl hvs hS hl
  have he := pool_at (G := G) (ad := ad) hi.1
  rw [ent_2 hi.2] at he
  have hD := pool_D hW hAa
  have e2 : (pool G ad M).set i (ad i, .inr (2, [re ad (mR M i 0), re ad (mR M i 1), .int v, re ad (mR M i 3), re ad (mR M i 4), re ad (mR M i 5), .int (mI M i 6), re ad (mR M i 7), re ad (mR M i 8)])) = pool G ad (sI M i 2 v) := pool_set rfl hi.1 (by rw [ent_2 hi.2]; simp [sI, mI, mJ, mR, up2]) (fun j hj => ent_sI_ne hj)
  skip
  skip
  skip
  exact va_put (D := G.1) (ci := 2) (C := RX2) (T := TX2) (N := 9) (ty := tyX2 2) (v := .int v) hx hb hts inB2 tyX2 tyX2_ok nmX2 hown hKK.1.1 hW.1 hD hS i he rfl 2 (by decide) (hts _ hw) (fun _ h9 => h9) rfl (by decide +kernel) rfl rfl (Nat.le_of_ble_eq_true rfl) hdg (fun H1 locs1 hP1 hD1 hS1 => kk ad H1 locs1 ls ⟨by rw [← e2]; exact hP1, hW.2.1, hW.2.2⟩ hAa hag hn hvl (vs_t (vs_t hvs)) hS1 hl)
theorem J_g2_3 {C : JC} {x : Bool} {cc : ByteArray} {nL : Nat} {rm : Room} {rt : Option FieldType} {own : String} {res : Res} {ce sl : Nat} {M : Mem} {pc : Nat} {lv : List (Nat × Value)} {st : List Value} {β : Type} {r0 : β} {f : Option Nat → Option β} {index : Nat} {a : Option Nat} (hC : Ok C x cc nL rm rt own res) (hw : Cond.fieldLink own index RX2 (TX2 3).2.1 (TX2 3).2.2.1 ∈ BIG) (hdg : decode cc pc = .ok (.getfield index, 3)) (h : (gR 2 3 M a).bind f = some r0)
    (kk : ∀ v, gR 2 3 M a = some v → f v = some r0 → J C ce sl M (pc + 3) lv (va_rf v :: st)) : J C ce sl M pc lv (va_rf a :: st) := by
  obtain ⟨v, hv, hf⟩ := bnd h
  have kk := kk v hv hf
  obtain ⟨i, rfl, hv2⟩ := bnd hv
  split at hv2
  case isFalse => cases hv2
  case isTrue hi =>
  cases hv2
  obtain ⟨p, l, e, R, s, m, args, below, meth, c, H0, A, Q, nL0, G, ad0, n0⟩ := C
  obtain ⟨hx, hb, hml, hnl, hown, hts, hKK, hH0, hA, hlk, hrt, hR, hQ, hxt⟩ := hC
  intro ad H locs ls hW hAa hag hn hvl hvs hS hl
  have he := pool_at (G := G) (ad := ad) hi.1
  rw [ent_2 hi.2] at he
  have k2 := kk ad H locs ls hW hAa hag hn hvl (vs_c (Vok_rf (fun j e => hW.2.2 _ _ j hi.1 e)) (vs_t hvs)) hS hl
  rw [List.map_cons, phys_rf] at k2
  exact va_get (D := G.1) (ci := 2) (C := RX2) (T := TX2) (N := 9) hx hb hts inB2 hown hKK.1.1 hW.1 i he rfl 3 (by decide) (hts _ hw) (fun _ h9 => h9) rfl hdg k2
theorem J_p2_3 {C : JC} {x : Bool} {cc : ByteArray} {nL : Nat} {rm : Room} {rt : Option FieldType} {own : String} {res : Res} {ce sl : Nat} {M : Mem} {pc : Nat} {lv : List (Nat × Value)} {st : List Value} {β : Type} {r0 : β} {f : Mem → Option β} {index : Nat} {a : Option Nat} {v : Option Nat} (hC : Ok C x cc nL rm rt own res) (hin : isInit C) (hdc : (TX2 3).1 = own) (hw : Cond.fieldLink own index RX2 (TX2 3).2.1 (TX2 3).2.2.1 ∈ BIG) (hdg : decode cc pc = .ok (.putfield index, 3)) (h : (pR 2 3 M a v).bind f = some r0)
    (kk : ∀ M', pR 2 3 M a v = some M' → f M' = some r0 → J C ce sl M' (pc + 3) lv st) : J C ce sl M pc lv (va_rf v :: va_rf a :: st) := by
  obtain ⟨M', hv, hf⟩ := bnd h
  have kk := kk M' hv hf
  obtain ⟨i, rfl, hv2⟩ := bnd hv
  split at hv2
  case isFalse => cases hv2
  case isTrue hi =>
  cases hv2
  obtain ⟨p, l, e, R, s, m, args, below, meth, c, H0, A, Q, nL0, G, ad0, n0⟩ := C
  obtain ⟨hx, hb, hml, hnl, hown, hts, hKK, hH0, hA, hlk, hrt, hR, hQ, hxt⟩ := hC
  intro ad H locs ls hW hAa hag hn hvl hvs hS hl
  have he := pool_at (G := G) (ad := ad) hi.1
  rw [ent_2 hi.2] at he
  have hD := pool_D hW hAa
  have e2 : (pool G ad M).set i (ad i, .inr (2, [re ad (mR M i 0), re ad (mR M i 1), .int (mI M i 2), re ad v, re ad (mR M i 4), re ad (mR M i 5), .int (mI M i 6), re ad (mR M i 7), re ad (mR M i 8)])) = pool G ad (sR M i 3 v) := pool_set rfl hi.1 (by rw [ent_2 hi.2]; simp [sR, mI, mJ, mR, up2]) (fun j hj => ent_sR_ne hj)
  have e3 : phys ad (va_rf v) = re ad v := phys_rf ad v
  rw [List.map_cons, e3]
  skip
  exact va_putF (D := G.1) (ci := 2) (C := RX2) (T := TX2) (N := 9) (ty := tyX2 3) (v := re ad v) hx hb hts inB2 tyX2 tyX2_ok nmX2 hown hKK.1.1 hW.1 hD hS i he rfl 3 (by decide) (hts _ hw) (fun _ h9 => h9) rfl hin hdc (by decide +kernel) (by cases v <;> rfl) (by cases v <;> rfl) (Nat.le_of_ble_eq_true rfl) hdg (fun H1 locs1 hP1 hD1 hS1 => kk ad H1 locs1 ls ⟨by rw [← e2]; exact hP1, hW.2.1, wf_sR hW.2.2 (vs_h hvs)⟩ hAa hag hn hvl (vs_t (vs_t hvs)) hS1 hl)
theorem J_g2_4 {C : JC} {x : Bool} {cc : ByteArray} {nL : Nat} {rm : Room} {rt : Option FieldType} {own : String} {res : Res} {ce sl : Nat} {M : Mem} {pc : Nat} {lv : List (Nat × Value)} {st : List Value} {β : Type} {r0 : β} {f : Option Nat → Option β} {index : Nat} {a : Option Nat} (hC : Ok C x cc nL rm rt own res) (hw : Cond.fieldLink own index RX2 (TX2 4).2.1 (TX2 4).2.2.1 ∈ BIG) (hdg : decode cc pc = .ok (.getfield index, 3)) (h : (gR 2 4 M a).bind f = some r0)
    (kk : ∀ v, gR 2 4 M a = some v → f v = some r0 → J C ce sl M (pc + 3) lv (va_rf v :: st)) : J C ce sl M pc lv (va_rf a :: st) := by
  obtain ⟨v, hv, hf⟩ := bnd h
  have kk := kk v hv hf
  obtain ⟨i, rfl, hv2⟩ := bnd hv
  split at hv2
  case isFalse => cases hv2
  case isTrue hi =>
  cases hv2
  obtain ⟨p, l, e, R, s, m, args, below, meth, c, H0, A, Q, nL0, G, ad0, n0⟩ := C
  obtain ⟨hx, hb, hml, hnl, hown, hts, hKK, hH0, hA, hlk, hrt, hR, hQ, hxt⟩ := hC
  intro ad H locs ls hW hAa hag hn hvl hvs hS hl
  have he := pool_at (G := G) (ad := ad) hi.1
  rw [ent_2 hi.2] at he
  have k2 := kk ad H locs ls hW hAa hag hn hvl (vs_c (Vok_rf (fun j e => hW.2.2 _ _ j hi.1 e)) (vs_t hvs)) hS hl
  rw [List.map_cons, phys_rf] at k2
  exact va_get (D := G.1) (ci := 2) (C := RX2) (T := TX2) (N := 9) hx hb hts inB2 hown hKK.1.1 hW.1 i he rfl 4 (by decide) (hts _ hw) (fun _ h9 => h9) rfl hdg k2
theorem J_p2_4 {C : JC} {x : Bool} {cc : ByteArray} {nL : Nat} {rm : Room} {rt : Option FieldType} {own : String} {res : Res} {ce sl : Nat} {M : Mem} {pc : Nat} {lv : List (Nat × Value)} {st : List Value} {β : Type} {r0 : β} {f : Mem → Option β} {index : Nat} {a : Option Nat} {v : Option Nat} (hC : Ok C x cc nL rm rt own res) (hin : isInit C) (hdc : (TX2 4).1 = own) (hw : Cond.fieldLink own index RX2 (TX2 4).2.1 (TX2 4).2.2.1 ∈ BIG) (hdg : decode cc pc = .ok (.putfield index, 3)) (h : (pR 2 4 M a v).bind f = some r0)
    (kk : ∀ M', pR 2 4 M a v = some M' → f M' = some r0 → J C ce sl M' (pc + 3) lv st) : J C ce sl M pc lv (va_rf v :: va_rf a :: st) := by
  obtain ⟨M', hv, hf⟩ := bnd h
  have kk := kk M' hv hf
  obtain ⟨i, rfl, hv2⟩ := bnd hv
  split at hv2
  case isFalse => cases hv2
  case isTrue hi =>
  cases hv2
  obtain ⟨p, l, e, R, s, m, args, below, meth, c, H0, A, Q, nL0, G, ad0, n0⟩ := C
  obtain ⟨hx, hb, hml, hnl, hown, hts, hKK, hH0, hA, hlk, hrt, hR, hQ, hxt⟩ := hC
  intro ad H locs ls hW hAa hag hn hvl hvs hS hl
  have he := pool_at (G := G) (ad := ad) hi.1
  rw [ent_2 hi.2] at he
  have hD := pool_D hW hAa
  have e2 : (pool G ad M).set i (ad i, .inr (2, [re ad (mR M i 0), re ad (mR M i 1), .int (mI M i 2), re ad (mR M i 3), re ad v, re ad (mR M i 5), .int (mI M i 6), re ad (mR M i 7), re ad (mR M i 8)])) = pool G ad (sR M i 4 v) := pool_set rfl hi.1 (by rw [ent_2 hi.2]; simp [sR, mI, mJ, mR, up2]) (fun j hj => ent_sR_ne hj)
  have e3 : phys ad (va_rf v) = re ad v := phys_rf ad v
  rw [List.map_cons, e3]
  skip
  exact va_putF (D := G.1) (ci := 2) (C := RX2) (T := TX2) (N := 9) (ty := tyX2 4) (v := re ad v) hx hb hts inB2 tyX2 tyX2_ok nmX2 hown hKK.1.1 hW.1 hD hS i he rfl 4 (by decide) (hts _ hw) (fun _ h9 => h9) rfl hin hdc (by decide +kernel) (by cases v <;> rfl) (by cases v <;> rfl) (Nat.le_of_ble_eq_true rfl) hdg (fun H1 locs1 hP1 hD1 hS1 => kk ad H1 locs1 ls ⟨by rw [← e2]; exact hP1, hW.2.1, wf_sR hW.2.2 (vs_h hvs)⟩ hAa hag hn hvl (vs_t (vs_t hvs)) hS1 hl)
theorem J_g2_5 {C : JC} {x : Bool} {cc : ByteArray} {nL : Nat} {rm : Room} {rt : Option FieldType} {own : String} {res : Res} {ce sl : Nat} {M : Mem} {pc : Nat} {lv : List (Nat × Value)} {st : List Value} {β : Type} {r0 : β} {f : Option Nat → Option β} {index : Nat} {a : Option Nat} (hC : Ok C x cc nL rm rt own res) (hw : Cond.fieldLink own index RX2 (TX2 5).2.1 (TX2 5).2.2.1 ∈ BIG) (hdg : decode cc pc = .ok (.getfield index, 3)) (h : (gR 2 5 M a).bind f = some r0)
    (kk : ∀ v, gR 2 5 M a = some v → f v = some r0 → J C ce sl M (pc + 3) lv (va_rf v :: st)) : J C ce sl M pc lv (va_rf a :: st) := by
  obtain ⟨v, hv, hf⟩ := bnd h
  have kk := kk v hv hf
  obtain ⟨i, rfl, hv2⟩ := bnd hv
  split at hv2
  case isFalse => cases hv2
  case isTrue hi =>
  cases hv2
  obtain ⟨p, l, e, R, s, m, args, below, meth, c, H0, A, Q, nL0, G, ad0, n0⟩ := C
  obtain ⟨hx, hb, hml, hnl, hown, hts, hKK, hH0, hA, hlk, hrt, hR, hQ, hxt⟩ := hC
  intro ad H locs ls hW hAa hag hn hvl hvs hS hl
  have he := pool_at (G := G) (ad := ad) hi.1
  rw [ent_2 hi.2] at he
  have k2 := kk ad H locs ls hW hAa hag hn hvl (vs_c (Vok_rf (fun j e => hW.2.2 _ _ j hi.1 e)) (vs_t hvs)) hS hl
  rw [List.map_cons, phys_rf] at k2
  exact va_get (D := G.1) (ci := 2) (C := RX2) (T := TX2) (N := 9) hx hb hts inB2 hown hKK.1.1 hW.1 i he rfl 5 (by decide) (hts _ hw) (fun _ h9 => h9) rfl hdg k2
theorem J_p2_5 {C : JC} {x : Bool} {cc : ByteArray} {nL : Nat} {rm : Room} {rt : Option FieldType} {own : String} {res : Res} {ce sl : Nat} {M : Mem} {pc : Nat} {lv : List (Nat × Value)} {st : List Value} {β : Type} {r0 : β} {f : Mem → Option β} {index : Nat} {a : Option Nat} {v : Option Nat} (hC : Ok C x cc nL rm rt own res) (hin : isInit C) (hdc : (TX2 5).1 = own) (hw : Cond.fieldLink own index RX2 (TX2 5).2.1 (TX2 5).2.2.1 ∈ BIG) (hdg : decode cc pc = .ok (.putfield index, 3)) (h : (pR 2 5 M a v).bind f = some r0)
    (kk : ∀ M', pR 2 5 M a v = some M' → f M' = some r0 → J C ce sl M' (pc + 3) lv st) : J C ce sl M pc lv (va_rf v :: va_rf a :: st) := by
  obtain ⟨M', hv, hf⟩ := bnd h
  have kk := kk M' hv hf
  obtain ⟨i, rfl, hv2⟩ := bnd hv
  split at hv2
  case isFalse => cases hv2
  case isTrue hi =>
  cases hv2
  obtain ⟨p, l, e, R, s, m, args, below, meth, c, H0, A, Q, nL0, G, ad0, n0⟩ := C
  obtain ⟨hx, hb, hml, hnl, hown, hts, hKK, hH0, hA, hlk, hrt, hR, hQ, hxt⟩ := hC
  intro ad H locs ls hW hAa hag hn hvl hvs hS hl
  have he := pool_at (G := G) (ad := ad) hi.1
  rw [ent_2 hi.2] at he
  have hD := pool_D hW hAa
  have e2 : (pool G ad M).set i (ad i, .inr (2, [re ad (mR M i 0), re ad (mR M i 1), .int (mI M i 2), re ad (mR M i 3), re ad (mR M i 4), re ad v, .int (mI M i 6), re ad (mR M i 7), re ad (mR M i 8)])) = pool G ad (sR M i 5 v) := pool_set rfl hi.1 (by rw [ent_2 hi.2]; simp [sR, mI, mJ, mR, up2]) (fun j hj => ent_sR_ne hj)
  have e3 : phys ad (va_rf v) = re ad v := phys_rf ad v
  rw [List.map_cons, e3]
  skip
  exact va_putF (D := G.1) (ci := 2) (C := RX2) (T := TX2) (N := 9) (ty := tyX2 5) (v := re ad v) hx hb hts inB2 tyX2 tyX2_ok nmX2 hown hKK.1.1 hW.1 hD hS i he rfl 5 (by decide) (hts _ hw) (fun _ h9 => h9) rfl hin hdc (by decide +kernel) (by cases v <;> rfl) (by cases v <;> rfl) (Nat.le_of_ble_eq_true rfl) hdg (fun H1 locs1 hP1 hD1 hS1 => kk ad H1 locs1 ls ⟨by rw [← e2]; exact hP1, hW.2.1, wf_sR hW.2.2 (vs_h hvs)⟩ hAa hag hn hvl (vs_t (vs_t hvs)) hS1 hl)
theorem J_g2_6 {C : JC} {x : Bool} {cc : ByteArray} {nL : Nat} {rm : Room} {rt : Option FieldType} {own : String} {res : Res} {ce sl : Nat} {M : Mem} {pc : Nat} {lv : List (Nat × Value)} {st : List Value} {β : Type} {r0 : β} {f : Int32 → Option β} {index : Nat} {a : Option Nat} (hC : Ok C x cc nL rm rt own res) (hw : Cond.fieldLink own index RX2 (TX2 6).2.1 (TX2 6).2.2.1 ∈ BIG) (hdg : decode cc pc = .ok (.getfield index, 3)) (h : (gI 2 6 M a).bind f = some r0)
    (kk : ∀ v, gI 2 6 M a = some v → f v = some r0 → J C ce sl M (pc + 3) lv (.int v :: st)) : J C ce sl M pc lv (va_rf a :: st) := by
  obtain ⟨v, hv, hf⟩ := bnd h
  have kk := kk v hv hf
  obtain ⟨i, rfl, hv2⟩ := bnd hv
  split at hv2
  case isFalse => cases hv2
  case isTrue hi =>
  cases hv2
  obtain ⟨p, l, e, R, s, m, args, below, meth, c, H0, A, Q, nL0, G, ad0, n0⟩ := C
  obtain ⟨hx, hb, hml, hnl, hown, hts, hKK, hH0, hA, hlk, hrt, hR, hQ, hxt⟩ := hC
  intro ad H locs ls hW hAa hag hn hvl hvs hS hl
  have he := pool_at (G := G) (ad := ad) hi.1
  rw [ent_2 hi.2] at he
  have k2 := kk ad H locs ls hW hAa hag hn hvl (vs_c Vok_int (vs_t hvs)) hS hl
  skip
  exact va_get (D := G.1) (ci := 2) (C := RX2) (T := TX2) (N := 9) hx hb hts inB2 hown hKK.1.1 hW.1 i he rfl 6 (by decide) (hts _ hw) (fun _ h9 => h9) rfl hdg k2
theorem J_p2_6 {C : JC} {x : Bool} {cc : ByteArray} {nL : Nat} {rm : Room} {rt : Option FieldType} {own : String} {res : Res} {ce sl : Nat} {M : Mem} {pc : Nat} {lv : List (Nat × Value)} {st : List Value} {β : Type} {r0 : β} {f : Mem → Option β} {index : Nat} {a : Option Nat} {v : Int32} (hC : Ok C x cc nL rm rt own res) (hw : Cond.fieldLink own index RX2 (TX2 6).2.1 (TX2 6).2.2.1 ∈ BIG) (hdg : decode cc pc = .ok (.putfield index, 3)) (h : (pI 2 6 M a v).bind f = some r0)
    (kk : ∀ M', pI 2 6 M a v = some M' → f M' = some r0 → J C ce sl M' (pc + 3) lv st) : J C ce sl M pc lv (.int v :: va_rf a :: st) := by
  obtain ⟨M', hv, hf⟩ := bnd h
  have kk := kk M' hv hf
  obtain ⟨i, rfl, hv2⟩ := bnd hv
  split at hv2
  case isFalse => cases hv2
  case isTrue hi =>
  cases hv2
  obtain ⟨p, l, e, R, s, m, args, below, meth, c, H0, A, Q, nL0, G, ad0, n0⟩ := C
  obtain ⟨hx, hb, hml, hnl, hown, hts, hKK, hH0, hA, hlk, hrt, hR, hQ, hxt⟩ := hC
  intro ad H locs ls hW hAa hag hn hvl hvs hS hl
  have he := pool_at (G := G) (ad := ad) hi.1
  rw [ent_2 hi.2] at he
  have hD := pool_D hW hAa
  have e2 : (pool G ad M).set i (ad i, .inr (2, [re ad (mR M i 0), re ad (mR M i 1), .int (mI M i 2), re ad (mR M i 3), re ad (mR M i 4), re ad (mR M i 5), .int v, re ad (mR M i 7), re ad (mR M i 8)])) = pool G ad (sI M i 6 v) := pool_set rfl hi.1 (by rw [ent_2 hi.2]; simp [sI, mI, mJ, mR, up2]) (fun j hj => ent_sI_ne hj)
  skip
  skip
  skip
  exact va_put (D := G.1) (ci := 2) (C := RX2) (T := TX2) (N := 9) (ty := tyX2 6) (v := .int v) hx hb hts inB2 tyX2 tyX2_ok nmX2 hown hKK.1.1 hW.1 hD hS i he rfl 6 (by decide) (hts _ hw) (fun _ h9 => h9) rfl (by decide +kernel) rfl rfl (Nat.le_of_ble_eq_true rfl) hdg (fun H1 locs1 hP1 hD1 hS1 => kk ad H1 locs1 ls ⟨by rw [← e2]; exact hP1, hW.2.1, hW.2.2⟩ hAa hag hn hvl (vs_t (vs_t hvs)) hS1 hl)
theorem J_g2_7 {C : JC} {x : Bool} {cc : ByteArray} {nL : Nat} {rm : Room} {rt : Option FieldType} {own : String} {res : Res} {ce sl : Nat} {M : Mem} {pc : Nat} {lv : List (Nat × Value)} {st : List Value} {β : Type} {r0 : β} {f : Option Nat → Option β} {index : Nat} {a : Option Nat} (hC : Ok C x cc nL rm rt own res) (hw : Cond.fieldLink own index RX2 (TX2 7).2.1 (TX2 7).2.2.1 ∈ BIG) (hdg : decode cc pc = .ok (.getfield index, 3)) (h : (gR 2 7 M a).bind f = some r0)
    (kk : ∀ v, gR 2 7 M a = some v → f v = some r0 → J C ce sl M (pc + 3) lv (va_rf v :: st)) : J C ce sl M pc lv (va_rf a :: st) := by
  obtain ⟨v, hv, hf⟩ := bnd h
  have kk := kk v hv hf
  obtain ⟨i, rfl, hv2⟩ := bnd hv
  split at hv2
  case isFalse => cases hv2
  case isTrue hi =>
  cases hv2
  obtain ⟨p, l, e, R, s, m, args, below, meth, c, H0, A, Q, nL0, G, ad0, n0⟩ := C
  obtain ⟨hx, hb, hml, hnl, hown, hts, hKK, hH0, hA, hlk, hrt, hR, hQ, hxt⟩ := hC
  intro ad H locs ls hW hAa hag hn hvl hvs hS hl
  have he := pool_at (G := G) (ad := ad) hi.1
  rw [ent_2 hi.2] at he
  have k2 := kk ad H locs ls hW hAa hag hn hvl (vs_c (Vok_rf (fun j e => hW.2.2 _ _ j hi.1 e)) (vs_t hvs)) hS hl
  rw [List.map_cons, phys_rf] at k2
  exact va_get (D := G.1) (ci := 2) (C := RX2) (T := TX2) (N := 9) hx hb hts inB2 hown hKK.1.1 hW.1 i he rfl 7 (by decide) (hts _ hw) (fun _ h9 => h9) rfl hdg k2
theorem J_p2_7 {C : JC} {x : Bool} {cc : ByteArray} {nL : Nat} {rm : Room} {rt : Option FieldType} {own : String} {res : Res} {ce sl : Nat} {M : Mem} {pc : Nat} {lv : List (Nat × Value)} {st : List Value} {β : Type} {r0 : β} {f : Mem → Option β} {index : Nat} {a : Option Nat} {v : Option Nat} (hC : Ok C x cc nL rm rt own res) (hin : isInit C) (hdc : (TX2 7).1 = own) (hw : Cond.fieldLink own index RX2 (TX2 7).2.1 (TX2 7).2.2.1 ∈ BIG) (hdg : decode cc pc = .ok (.putfield index, 3)) (h : (pR 2 7 M a v).bind f = some r0)
    (kk : ∀ M', pR 2 7 M a v = some M' → f M' = some r0 → J C ce sl M' (pc + 3) lv st) : J C ce sl M pc lv (va_rf v :: va_rf a :: st) := by
  obtain ⟨M', hv, hf⟩ := bnd h
  have kk := kk M' hv hf
  obtain ⟨i, rfl, hv2⟩ := bnd hv
  split at hv2
  case isFalse => cases hv2
  case isTrue hi =>
  cases hv2
  obtain ⟨p, l, e, R, s, m, args, below, meth, c, H0, A, Q, nL0, G, ad0, n0⟩ := C
  obtain ⟨hx, hb, hml, hnl, hown, hts, hKK, hH0, hA, hlk, hrt, hR, hQ, hxt⟩ := hC
  intro ad H locs ls hW hAa hag hn hvl hvs hS hl
  have he := pool_at (G := G) (ad := ad) hi.1
  rw [ent_2 hi.2] at he
  have hD := pool_D hW hAa
  have e2 : (pool G ad M).set i (ad i, .inr (2, [re ad (mR M i 0), re ad (mR M i 1), .int (mI M i 2), re ad (mR M i 3), re ad (mR M i 4), re ad (mR M i 5), .int (mI M i 6), re ad v, re ad (mR M i 8)])) = pool G ad (sR M i 7 v) := pool_set rfl hi.1 (by rw [ent_2 hi.2]; simp [sR, mI, mJ, mR, up2]) (fun j hj => ent_sR_ne hj)
  have e3 : phys ad (va_rf v) = re ad v := phys_rf ad v
  rw [List.map_cons, e3]
  skip
  exact va_putF (D := G.1) (ci := 2) (C := RX2) (T := TX2) (N := 9) (ty := tyX2 7) (v := re ad v) hx hb hts inB2 tyX2 tyX2_ok nmX2 hown hKK.1.1 hW.1 hD hS i he rfl 7 (by decide) (hts _ hw) (fun _ h9 => h9) rfl hin hdc (by decide +kernel) (by cases v <;> rfl) (by cases v <;> rfl) (Nat.le_of_ble_eq_true rfl) hdg (fun H1 locs1 hP1 hD1 hS1 => kk ad H1 locs1 ls ⟨by rw [← e2]; exact hP1, hW.2.1, wf_sR hW.2.2 (vs_h hvs)⟩ hAa hag hn hvl (vs_t (vs_t hvs)) hS1 hl)
theorem J_g2_8 {C : JC} {x : Bool} {cc : ByteArray} {nL : Nat} {rm : Room} {rt : Option FieldType} {own : String} {res : Res} {ce sl : Nat} {M : Mem} {pc : Nat} {lv : List (Nat × Value)} {st : List Value} {β : Type} {r0 : β} {f : Option Nat → Option β} {index : Nat} {a : Option Nat} (hC : Ok C x cc nL rm rt own res) (hw : Cond.fieldLink own index RX2 (TX2 8).2.1 (TX2 8).2.2.1 ∈ BIG) (hdg : decode cc pc = .ok (.getfield index, 3)) (h : (gR 2 8 M a).bind f = some r0)
    (kk : ∀ v, gR 2 8 M a = some v → f v = some r0 → J C ce sl M (pc + 3) lv (va_rf v :: st)) : J C ce sl M pc lv (va_rf a :: st) := by
  obtain ⟨v, hv, hf⟩ := bnd h
  have kk := kk v hv hf
  obtain ⟨i, rfl, hv2⟩ := bnd hv
  split at hv2
  case isFalse => cases hv2
  case isTrue hi =>
  cases hv2
  obtain ⟨p, l, e, R, s, m, args, below, meth, c, H0, A, Q, nL0, G, ad0, n0⟩ := C
  obtain ⟨hx, hb, hml, hnl, hown, hts, hKK, hH0, hA, hlk, hrt, hR, hQ, hxt⟩ := hC
  intro ad H locs ls hW hAa hag hn hvl hvs hS hl
  have he := pool_at (G := G) (ad := ad) hi.1
  rw [ent_2 hi.2] at he
  have k2 := kk ad H locs ls hW hAa hag hn hvl (vs_c (Vok_rf (fun j e => hW.2.2 _ _ j hi.1 e)) (vs_t hvs)) hS hl
  rw [List.map_cons, phys_rf] at k2
  exact va_get (D := G.1) (ci := 2) (C := RX2) (T := TX2) (N := 9) hx hb hts inB2 hown hKK.1.1 hW.1 i he rfl 8 (by decide) (hts _ hw) (fun _ h9 => h9) rfl hdg k2
theorem J_p2_8 {C : JC} {x : Bool} {cc : ByteArray} {nL : Nat} {rm : Room} {rt : Option FieldType} {own : String} {res : Res} {ce sl : Nat} {M : Mem} {pc : Nat} {lv : List (Nat × Value)} {st : List Value} {β : Type} {r0 : β} {f : Mem → Option β} {index : Nat} {a : Option Nat} {v : Option Nat} (hC : Ok C x cc nL rm rt own res) (hin : isInit C) (hdc : (TX2 8).1 = own) (hw : Cond.fieldLink own index RX2 (TX2 8).2.1 (TX2 8).2.2.1 ∈ BIG) (hdg : decode cc pc = .ok (.putfield index, 3)) (h : (pR 2 8 M a v).bind f = some r0)
    (kk : ∀ M', pR 2 8 M a v = some M' → f M' = some r0 → J C ce sl M' (pc + 3) lv st) : J C ce sl M pc lv (va_rf v :: va_rf a :: st) := by
  obtain ⟨M', hv, hf⟩ := bnd h
  have kk := kk M' hv hf
  obtain ⟨i, rfl, hv2⟩ := bnd hv
  split at hv2
  case isFalse => cases hv2
  case isTrue hi =>
  cases hv2
  obtain ⟨p, l, e, R, s, m, args, below, meth, c, H0, A, Q, nL0, G, ad0, n0⟩ := C
  obtain ⟨hx, hb, hml, hnl, hown, hts, hKK, hH0, hA, hlk, hrt, hR, hQ, hxt⟩ := hC
  intro ad H locs ls hW hAa hag hn hvl hvs hS hl
  have he := pool_at (G := G) (ad := ad) hi.1
  rw [ent_2 hi.2] at he
  have hD := pool_D hW hAa
  have e2 : (pool G ad M).set i (ad i, .inr (2, [re ad (mR M i 0), re ad (mR M i 1), .int (mI M i 2), re ad (mR M i 3), re ad (mR M i 4), re ad (mR M i 5), .int (mI M i 6), re ad (mR M i 7), re ad v])) = pool G ad (sR M i 8 v) := pool_set rfl hi.1 (by rw [ent_2 hi.2]; simp [sR, mI, mJ, mR, up2]) (fun j hj => ent_sR_ne hj)
  have e3 : phys ad (va_rf v) = re ad v := phys_rf ad v
  rw [List.map_cons, e3]
  skip
  exact va_putF (D := G.1) (ci := 2) (C := RX2) (T := TX2) (N := 9) (ty := tyX2 8) (v := re ad v) hx hb hts inB2 tyX2 tyX2_ok nmX2 hown hKK.1.1 hW.1 hD hS i he rfl 8 (by decide) (hts _ hw) (fun _ h9 => h9) rfl hin hdc (by decide +kernel) (by cases v <;> rfl) (by cases v <;> rfl) (Nat.le_of_ble_eq_true rfl) hdg (fun H1 locs1 hP1 hD1 hS1 => kk ad H1 locs1 ls ⟨by rw [← e2]; exact hP1, hW.2.1, wf_sR hW.2.2 (vs_h hvs)⟩ hAa hag hn hvl (vs_t (vs_t hvs)) hS1 hl)
theorem J_g3_0 {C : JC} {x : Bool} {cc : ByteArray} {nL : Nat} {rm : Room} {rt : Option FieldType} {own : String} {res : Res} {ce sl : Nat} {M : Mem} {pc : Nat} {lv : List (Nat × Value)} {st : List Value} {β : Type} {r0 : β} {f : Int32 → Option β} {index : Nat} {a : Option Nat} (hC : Ok C x cc nL rm rt own res) (hw : Cond.fieldLink own index RX3 (TX3 0).2.1 (TX3 0).2.2.1 ∈ BIG) (hdg : decode cc pc = .ok (.getfield index, 3)) (h : (gI 3 0 M a).bind f = some r0)
    (kk : ∀ v, gI 3 0 M a = some v → f v = some r0 → J C ce sl M (pc + 3) lv (.int v :: st)) : J C ce sl M pc lv (va_rf a :: st) := by
  obtain ⟨v, hv, hf⟩ := bnd h
  have kk := kk v hv hf
  obtain ⟨i, rfl, hv2⟩ := bnd hv
  split at hv2
  case isFalse => cases hv2
  case isTrue hi =>
  cases hv2
  obtain ⟨p, l, e, R, s, m, args, below, meth, c, H0, A, Q, nL0, G, ad0, n0⟩ := C
  obtain ⟨hx, hb, hml, hnl, hown, hts, hKK, hH0, hA, hlk, hrt, hR, hQ, hxt⟩ := hC
  intro ad H locs ls hW hAa hag hn hvl hvs hS hl
  have he := pool_at (G := G) (ad := ad) hi.1
  rw [ent_3 hi.2] at he
  have k2 := kk ad H locs ls hW hAa hag hn hvl (vs_c Vok_int (vs_t hvs)) hS hl
  skip
  exact va_get (D := G.1) (ci := 3) (C := RX3) (T := TX3) (N := 13) hx hb hts inB3 hown hKK.1.1 hW.1 i he rfl 0 (by decide) (hts _ hw) (fun _ h9 => h9) rfl hdg k2
theorem J_p3_0 {C : JC} {x : Bool} {cc : ByteArray} {nL : Nat} {rm : Room} {rt : Option FieldType} {own : String} {res : Res} {ce sl : Nat} {M : Mem} {pc : Nat} {lv : List (Nat × Value)} {st : List Value} {β : Type} {r0 : β} {f : Mem → Option β} {index : Nat} {a : Option Nat} {v : Int32} (hC : Ok C x cc nL rm rt own res) (hw : Cond.fieldLink own index RX3 (TX3 0).2.1 (TX3 0).2.2.1 ∈ BIG) (hdg : decode cc pc = .ok (.putfield index, 3)) (h : (pI 3 0 M a v).bind f = some r0)
    (kk : ∀ M', pI 3 0 M a v = some M' → f M' = some r0 → J C ce sl M' (pc + 3) lv st) : J C ce sl M pc lv (.int v :: va_rf a :: st) := by
  obtain ⟨M', hv, hf⟩ := bnd h
  have kk := kk M' hv hf
  obtain ⟨i, rfl, hv2⟩ := bnd hv
  split at hv2
  case isFalse => cases hv2
  case isTrue hi =>
  cases hv2
  obtain ⟨p, l, e, R, s, m, args, below, meth, c, H0, A, Q, nL0, G, ad0, n0⟩ := C
  obtain ⟨hx, hb, hml, hnl, hown, hts, hKK, hH0, hA, hlk, hrt, hR, hQ, hxt⟩ := hC
  intro ad H locs ls hW hAa hag hn hvl hvs hS hl
  have he := pool_at (G := G) (ad := ad) hi.1
  rw [ent_3 hi.2] at he
  have hD := pool_D hW hAa
  have e2 : (pool G ad M).set i (ad i, .inr (3, [.int v, re ad (mR M i 1), re ad (mR M i 2), .int (mI M i 3), re ad (mR M i 4), re ad (mR M i 5), re ad (mR M i 6), .int (mI M i 7), re ad (mR M i 8), re ad (mR M i 9), .int (mI M i 10), re ad (mR M i 11), .long (mJ M i 12)])) = pool G ad (sI M i 0 v) := pool_set rfl hi.1 (by rw [ent_3 hi.2]; simp [sI, mI, mJ, mR, up2]) (fun j hj => ent_sI_ne hj)
  skip
  skip
  skip
  exact va_put (D := G.1) (ci := 3) (C := RX3) (T := TX3) (N := 13) (ty := tyX3 0) (v := .int v) hx hb hts inB3 tyX3 tyX3_ok nmX3 hown hKK.1.1 hW.1 hD hS i he rfl 0 (by decide) (hts _ hw) (fun _ h9 => h9) rfl (by decide +kernel) rfl rfl (Nat.le_of_ble_eq_true rfl) hdg (fun H1 locs1 hP1 hD1 hS1 => kk ad H1 locs1 ls ⟨by rw [← e2]; exact hP1, hW.2.1, hW.2.2⟩ hAa hag hn hvl (vs_t (vs_t hvs)) hS1 hl)
theorem J_g3_1 {C : JC} {x : Bool} {cc : ByteArray} {nL : Nat} {rm : Room} {rt : Option FieldType} {own : String} {res : Res} {ce sl : Nat} {M : Mem} {pc : Nat} {lv : List (Nat × Value)} {st : List Value} {β : Type} {r0 : β} {f : Option Nat → Option β} {index : Nat} {a : Option Nat} (hC : Ok C x cc nL rm rt own res) (hw : Cond.fieldLink own index RX3 (TX3 1).2.1 (TX3 1).2.2.1 ∈ BIG) (hdg : decode cc pc = .ok (.getfield index, 3)) (h : (gR 3 1 M a).bind f = some r0)
    (kk : ∀ v, gR 3 1 M a = some v → f v = some r0 → J C ce sl M (pc + 3) lv (va_rf v :: st)) : J C ce sl M pc lv (va_rf a :: st) := by
  obtain ⟨v, hv, hf⟩ := bnd h
  have kk := kk v hv hf
  obtain ⟨i, rfl, hv2⟩ := bnd hv
  split at hv2
  case isFalse => cases hv2
  case isTrue hi =>
  cases hv2
  obtain ⟨p, l, e, R, s, m, args, below, meth, c, H0, A, Q, nL0, G, ad0, n0⟩ := C
  obtain ⟨hx, hb, hml, hnl, hown, hts, hKK, hH0, hA, hlk, hrt, hR, hQ, hxt⟩ := hC
  intro ad H locs ls hW hAa hag hn hvl hvs hS hl
  have he := pool_at (G := G) (ad := ad) hi.1
  rw [ent_3 hi.2] at he
  have k2 := kk ad H locs ls hW hAa hag hn hvl (vs_c (Vok_rf (fun j e => hW.2.2 _ _ j hi.1 e)) (vs_t hvs)) hS hl
  rw [List.map_cons, phys_rf] at k2
  exact va_get (D := G.1) (ci := 3) (C := RX3) (T := TX3) (N := 13) hx hb hts inB3 hown hKK.1.1 hW.1 i he rfl 1 (by decide) (hts _ hw) (fun _ h9 => h9) rfl hdg k2
theorem J_p3_1 {C : JC} {x : Bool} {cc : ByteArray} {nL : Nat} {rm : Room} {rt : Option FieldType} {own : String} {res : Res} {ce sl : Nat} {M : Mem} {pc : Nat} {lv : List (Nat × Value)} {st : List Value} {β : Type} {r0 : β} {f : Mem → Option β} {index : Nat} {a : Option Nat} {v : Option Nat} (hC : Ok C x cc nL rm rt own res) (hin : isInit C) (hdc : (TX3 1).1 = own) (hw : Cond.fieldLink own index RX3 (TX3 1).2.1 (TX3 1).2.2.1 ∈ BIG) (hdg : decode cc pc = .ok (.putfield index, 3)) (h : (pR 3 1 M a v).bind f = some r0)
    (kk : ∀ M', pR 3 1 M a v = some M' → f M' = some r0 → J C ce sl M' (pc + 3) lv st) : J C ce sl M pc lv (va_rf v :: va_rf a :: st) := by
  obtain ⟨M', hv, hf⟩ := bnd h
  have kk := kk M' hv hf
  obtain ⟨i, rfl, hv2⟩ := bnd hv
  split at hv2
  case isFalse => cases hv2
  case isTrue hi =>
  cases hv2
  obtain ⟨p, l, e, R, s, m, args, below, meth, c, H0, A, Q, nL0, G, ad0, n0⟩ := C
  obtain ⟨hx, hb, hml, hnl, hown, hts, hKK, hH0, hA, hlk, hrt, hR, hQ, hxt⟩ := hC
  intro ad H locs ls hW hAa hag hn hvl hvs hS hl
  have he := pool_at (G := G) (ad := ad) hi.1
  rw [ent_3 hi.2] at he
  have hD := pool_D hW hAa
  have e2 : (pool G ad M).set i (ad i, .inr (3, [.int (mI M i 0), re ad v, re ad (mR M i 2), .int (mI M i 3), re ad (mR M i 4), re ad (mR M i 5), re ad (mR M i 6), .int (mI M i 7), re ad (mR M i 8), re ad (mR M i 9), .int (mI M i 10), re ad (mR M i 11), .long (mJ M i 12)])) = pool G ad (sR M i 1 v) := pool_set rfl hi.1 (by rw [ent_3 hi.2]; simp [sR, mI, mJ, mR, up2]) (fun j hj => ent_sR_ne hj)
  have e3 : phys ad (va_rf v) = re ad v := phys_rf ad v
  rw [List.map_cons, e3]
  skip
  exact va_putF (D := G.1) (ci := 3) (C := RX3) (T := TX3) (N := 13) (ty := tyX3 1) (v := re ad v) hx hb hts inB3 tyX3 tyX3_ok nmX3 hown hKK.1.1 hW.1 hD hS i he rfl 1 (by decide) (hts _ hw) (fun _ h9 => h9) rfl hin hdc (by decide +kernel) (by cases v <;> rfl) (by cases v <;> rfl) (Nat.le_of_ble_eq_true rfl) hdg (fun H1 locs1 hP1 hD1 hS1 => kk ad H1 locs1 ls ⟨by rw [← e2]; exact hP1, hW.2.1, wf_sR hW.2.2 (vs_h hvs)⟩ hAa hag hn hvl (vs_t (vs_t hvs)) hS1 hl)
theorem J_g3_2 {C : JC} {x : Bool} {cc : ByteArray} {nL : Nat} {rm : Room} {rt : Option FieldType} {own : String} {res : Res} {ce sl : Nat} {M : Mem} {pc : Nat} {lv : List (Nat × Value)} {st : List Value} {β : Type} {r0 : β} {f : Option Nat → Option β} {index : Nat} {a : Option Nat} (hC : Ok C x cc nL rm rt own res) (hw : Cond.fieldLink own index RX3 (TX3 2).2.1 (TX3 2).2.2.1 ∈ BIG) (hdg : decode cc pc = .ok (.getfield index, 3)) (h : (gR 3 2 M a).bind f = some r0)
    (kk : ∀ v, gR 3 2 M a = some v → f v = some r0 → J C ce sl M (pc + 3) lv (va_rf v :: st)) : J C ce sl M pc lv (va_rf a :: st) := by
  obtain ⟨v, hv, hf⟩ := bnd h
  have kk := kk v hv hf
  obtain ⟨i, rfl, hv2⟩ := bnd hv
  split at hv2
  case isFalse => cases hv2
  case isTrue hi =>
  cases hv2
  obtain ⟨p, l, e, R, s, m, args, below, meth, c, H0, A, Q, nL0, G, ad0, n0⟩ := C
  obtain ⟨hx, hb, hml, hnl, hown, hts, hKK, hH0, hA, hlk, hrt, hR, hQ, hxt⟩ := hC
  intro ad H locs ls hW hAa hag hn hvl hvs hS hl
  have he := pool_at (G := G) (ad := ad) hi.1
  rw [ent_3 hi.2] at he
  have k2 := kk ad H locs ls hW hAa hag hn hvl (vs_c (Vok_rf (fun j e => hW.2.2 _ _ j hi.1 e)) (vs_t hvs)) hS hl
  rw [List.map_cons, phys_rf] at k2
  exact va_get (D := G.1) (ci := 3) (C := RX3) (T := TX3) (N := 13) hx hb hts inB3 hown hKK.1.1 hW.1 i he rfl 2 (by decide) (hts _ hw) (fun _ h9 => h9) rfl hdg k2
theorem J_p3_2 {C : JC} {x : Bool} {cc : ByteArray} {nL : Nat} {rm : Room} {rt : Option FieldType} {own : String} {res : Res} {ce sl : Nat} {M : Mem} {pc : Nat} {lv : List (Nat × Value)} {st : List Value} {β : Type} {r0 : β} {f : Mem → Option β} {index : Nat} {a : Option Nat} {v : Option Nat} (hC : Ok C x cc nL rm rt own res) (hin : isInit C) (hdc : (TX3 2).1 = own) (hw : Cond.fieldLink own index RX3 (TX3 2).2.1 (TX3 2).2.2.1 ∈ BIG) (hdg : decode cc pc = .ok (.putfield index, 3)) (h : (pR 3 2 M a v).bind f = some r0)
    (kk : ∀ M', pR 3 2 M a v = some M' → f M' = some r0 → J C ce sl M' (pc + 3) lv st) : J C ce sl M pc lv (va_rf v :: va_rf a :: st) := by
  obtain ⟨M', hv, hf⟩ := bnd h
  have kk := kk M' hv hf
  obtain ⟨i, rfl, hv2⟩ := bnd hv
  split at hv2
  case isFalse => cases hv2
  case isTrue hi =>
  cases hv2
  obtain ⟨p, l, e, R, s, m, args, below, meth, c, H0, A, Q, nL0, G, ad0, n0⟩ := C
  obtain ⟨hx, hb, hml, hnl, hown, hts, hKK, hH0, hA, hlk, hrt, hR, hQ, hxt⟩ := hC
  intro ad H locs ls hW hAa hag hn hvl hvs hS hl
  have he := pool_at (G := G) (ad := ad) hi.1
  rw [ent_3 hi.2] at he
  have hD := pool_D hW hAa
  have e2 : (pool G ad M).set i (ad i, .inr (3, [.int (mI M i 0), re ad (mR M i 1), re ad v, .int (mI M i 3), re ad (mR M i 4), re ad (mR M i 5), re ad (mR M i 6), .int (mI M i 7), re ad (mR M i 8), re ad (mR M i 9), .int (mI M i 10), re ad (mR M i 11), .long (mJ M i 12)])) = pool G ad (sR M i 2 v) := pool_set rfl hi.1 (by rw [ent_3 hi.2]; simp [sR, mI, mJ, mR, up2]) (fun j hj => ent_sR_ne hj)
  have e3 : phys ad (va_rf v) = re ad v := phys_rf ad v
  rw [List.map_cons, e3]
  skip
  exact va_putF (D := G.1) (ci := 3) (C := RX3) (T := TX3) (N := 13) (ty := tyX3 2) (v := re ad v) hx hb hts inB3 tyX3 tyX3_ok nmX3 hown hKK.1.1 hW.1 hD hS i he rfl 2 (by decide) (hts _ hw) (fun _ h9 => h9) rfl hin hdc (by decide +kernel) (by cases v <;> rfl) (by cases v <;> rfl) (Nat.le_of_ble_eq_true rfl) hdg (fun H1 locs1 hP1 hD1 hS1 => kk ad H1 locs1 ls ⟨by rw [← e2]; exact hP1, hW.2.1, wf_sR hW.2.2 (vs_h hvs)⟩ hAa hag hn hvl (vs_t (vs_t hvs)) hS1 hl)
theorem J_g3_3 {C : JC} {x : Bool} {cc : ByteArray} {nL : Nat} {rm : Room} {rt : Option FieldType} {own : String} {res : Res} {ce sl : Nat} {M : Mem} {pc : Nat} {lv : List (Nat × Value)} {st : List Value} {β : Type} {r0 : β} {f : Int32 → Option β} {index : Nat} {a : Option Nat} (hC : Ok C x cc nL rm rt own res) (hw : Cond.fieldLink own index RX3 (TX3 3).2.1 (TX3 3).2.2.1 ∈ BIG) (hdg : decode cc pc = .ok (.getfield index, 3)) (h : (gI 3 3 M a).bind f = some r0)
    (kk : ∀ v, gI 3 3 M a = some v → f v = some r0 → J C ce sl M (pc + 3) lv (.int v :: st)) : J C ce sl M pc lv (va_rf a :: st) := by
  obtain ⟨v, hv, hf⟩ := bnd h
  have kk := kk v hv hf
  obtain ⟨i, rfl, hv2⟩ := bnd hv
  split at hv2
  case isFalse => cases hv2
  case isTrue hi =>
  cases hv2
  obtain ⟨p, l, e, R, s, m, args, below, meth, c, H0, A, Q, nL0, G, ad0, n0⟩ := C
  obtain ⟨hx, hb, hml, hnl, hown, hts, hKK, hH0, hA, hlk, hrt, hR, hQ, hxt⟩ := hC
  intro ad H locs ls hW hAa hag hn hvl hvs hS hl
  have he := pool_at (G := G) (ad := ad) hi.1
  rw [ent_3 hi.2] at he
  have k2 := kk ad H locs ls hW hAa hag hn hvl (vs_c Vok_int (vs_t hvs)) hS hl
  skip
  exact va_get (D := G.1) (ci := 3) (C := RX3) (T := TX3) (N := 13) hx hb hts inB3 hown hKK.1.1 hW.1 i he rfl 3 (by decide) (hts _ hw) (fun _ h9 => h9) rfl hdg k2
theorem J_p3_3 {C : JC} {x : Bool} {cc : ByteArray} {nL : Nat} {rm : Room} {rt : Option FieldType} {own : String} {res : Res} {ce sl : Nat} {M : Mem} {pc : Nat} {lv : List (Nat × Value)} {st : List Value} {β : Type} {r0 : β} {f : Mem → Option β} {index : Nat} {a : Option Nat} {v : Int32} (hC : Ok C x cc nL rm rt own res) (hw : Cond.fieldLink own index RX3 (TX3 3).2.1 (TX3 3).2.2.1 ∈ BIG) (hdg : decode cc pc = .ok (.putfield index, 3)) (h : (pI 3 3 M a v).bind f = some r0)
    (kk : ∀ M', pI 3 3 M a v = some M' → f M' = some r0 → J C ce sl M' (pc + 3) lv st) : J C ce sl M pc lv (.int v :: va_rf a :: st) := by
  obtain ⟨M', hv, hf⟩ := bnd h
  have kk := kk M' hv hf
  obtain ⟨i, rfl, hv2⟩ := bnd hv
  split at hv2
  case isFalse => cases hv2
  case isTrue hi =>
  cases hv2
  obtain ⟨p, l, e, R, s, m, args, below, meth, c, H0, A, Q, nL0, G, ad0, n0⟩ := C
  obtain ⟨hx, hb, hml, hnl, hown, hts, hKK, hH0, hA, hlk, hrt, hR, hQ, hxt⟩ := hC
  intro ad H locs ls hW hAa hag hn hvl hvs hS hl
  have he := pool_at (G := G) (ad := ad) hi.1
  rw [ent_3 hi.2] at he
  have hD := pool_D hW hAa
  have e2 : (pool G ad M).set i (ad i, .inr (3, [.int (mI M i 0), re ad (mR M i 1), re ad (mR M i 2), .int v, re ad (mR M i 4), re ad (mR M i 5), re ad (mR M i 6), .int (mI M i 7), re ad (mR M i 8), re ad (mR M i 9), .int (mI M i 10), re ad (mR M i 11), .long (mJ M i 12)])) = pool G ad (sI M i 3 v) := pool_set rfl hi.1 (by rw [ent_3 hi.2]; simp [sI, mI, mJ, mR, up2]) (fun j hj => ent_sI_ne hj)
  skip
  skip
  skip
  exact va_put (D := G.1) (ci := 3) (C := RX3) (T := TX3) (N := 13) (ty := tyX3 3) (v := .int v) hx hb hts inB3 tyX3 tyX3_ok nmX3 hown hKK.1.1 hW.1 hD hS i he rfl 3 (by decide) (hts _ hw) (fun _ h9 => h9) rfl (by decide +kernel) rfl rfl (Nat.le_of_ble_eq_true rfl) hdg (fun H1 locs1 hP1 hD1 hS1 => kk ad H1 locs1 ls ⟨by rw [← e2]; exact hP1, hW.2.1, hW.2.2⟩ hAa hag hn hvl (vs_t (vs_t hvs)) hS1 hl)
theorem J_g3_4 {C : JC} {x : Bool} {cc : ByteArray} {nL : Nat} {rm : Room} {rt : Option FieldType} {own : String} {res : Res} {ce sl : Nat} {M : Mem} {pc : Nat} {lv : List (Nat × Value)} {st : List Value} {β : Type} {r0 : β} {f : Option Nat → Option β} {index : Nat} {a : Option Nat} (hC : Ok C x cc nL rm rt own res) (hw : Cond.fieldLink own index RX3 (TX3 4).2.1 (TX3 4).2.2.1 ∈ BIG) (hdg : decode cc pc = .ok (.getfield index, 3)) (h : (gR 3 4 M a).bind f = some r0)
    (kk : ∀ v, gR 3 4 M a = some v → f v = some r0 → J C ce sl M (pc + 3) lv (va_rf v :: st)) : J C ce sl M pc lv (va_rf a :: st) := by
  obtain ⟨v, hv, hf⟩ := bnd h
  have kk := kk v hv hf
  obtain ⟨i, rfl, hv2⟩ := bnd hv
  split at hv2
  case isFalse => cases hv2
  case isTrue hi =>
  cases hv2
  obtain ⟨p, l, e, R, s, m, args, below, meth, c, H0, A, Q, nL0, G, ad0, n0⟩ := C
  obtain ⟨hx, hb, hml, hnl, hown, hts, hKK, hH0, hA, hlk, hrt, hR, hQ, hxt⟩ := hC
  intro ad H locs ls hW hAa hag hn hvl hvs hS hl
  have he := pool_at (G := G) (ad := ad) hi.1
  rw [ent_3 hi.2] at he
  have k2 := kk ad H locs ls hW hAa hag hn hvl (vs_c (Vok_rf (fun j e => hW.2.2 _ _ j hi.1 e)) (vs_t hvs)) hS hl
  rw [List.map_cons, phys_rf] at k2
  exact va_get (D := G.1) (ci := 3) (C := RX3) (T := TX3) (N := 13) hx hb hts inB3 hown hKK.1.1 hW.1 i he rfl 4 (by decide) (hts _ hw) (fun _ h9 => h9) rfl hdg k2
theorem J_p3_4 {C : JC} {x : Bool} {cc : ByteArray} {nL : Nat} {rm : Room} {rt : Option FieldType} {own : String} {res : Res} {ce sl : Nat} {M : Mem} {pc : Nat} {lv : List (Nat × Value)} {st : List Value} {β : Type} {r0 : β} {f : Mem → Option β} {index : Nat} {a : Option Nat} {v : Option Nat} (hC : Ok C x cc nL rm rt own res) (hin : isInit C) (hdc : (TX3 4).1 = own) (hw : Cond.fieldLink own index RX3 (TX3 4).2.1 (TX3 4).2.2.1 ∈ BIG) (hdg : decode cc pc = .ok (.putfield index, 3)) (h : (pR 3 4 M a v).bind f = some r0)
    (kk : ∀ M', pR 3 4 M a v = some M' → f M' = some r0 → J C ce sl M' (pc + 3) lv st) : J C ce sl M pc lv (va_rf v :: va_rf a :: st) := by
  obtain ⟨M', hv, hf⟩ := bnd h
  have kk := kk M' hv hf
  obtain ⟨i, rfl, hv2⟩ := bnd hv
  split at hv2
  case isFalse => cases hv2
  case isTrue hi =>
  cases hv2
  obtain ⟨p, l, e, R, s, m, args, below, meth, c, H0, A, Q, nL0, G, ad0, n0⟩ := C
  obtain ⟨hx, hb, hml, hnl, hown, hts, hKK, hH0, hA, hlk, hrt, hR, hQ, hxt⟩ := hC
  intro ad H locs ls hW hAa hag hn hvl hvs hS hl
  have he := pool_at (G := G) (ad := ad) hi.1
  rw [ent_3 hi.2] at he
  have hD := pool_D hW hAa
  have e2 : (pool G ad M).set i (ad i, .inr (3, [.int (mI M i 0), re ad (mR M i 1), re ad (mR M i 2), .int (mI M i 3), re ad v, re ad (mR M i 5), re ad (mR M i 6), .int (mI M i 7), re ad (mR M i 8), re ad (mR M i 9), .int (mI M i 10), re ad (mR M i 11), .long (mJ M i 12)])) = pool G ad (sR M i 4 v) := pool_set rfl hi.1 (by rw [ent_3 hi.2]; simp [sR, mI, mJ, mR, up2]) (fun j hj => ent_sR_ne hj)
  have e3 : phys ad (va_rf v) = re ad v := phys_rf ad v
  rw [List.map_cons, e3]
  skip
  exact va_putF (D := G.1) (ci := 3) (C := RX3) (T := TX3) (N := 13) (ty := tyX3 4) (v := re ad v) hx hb hts inB3 tyX3 tyX3_ok nmX3 hown hKK.1.1 hW.1 hD hS i he rfl 4 (by decide) (hts _ hw) (fun _ h9 => h9) rfl hin hdc (by decide +kernel) (by cases v <;> rfl) (by cases v <;> rfl) (Nat.le_of_ble_eq_true rfl) hdg (fun H1 locs1 hP1 hD1 hS1 => kk ad H1 locs1 ls ⟨by rw [← e2]; exact hP1, hW.2.1, wf_sR hW.2.2 (vs_h hvs)⟩ hAa hag hn hvl (vs_t (vs_t hvs)) hS1 hl)
theorem J_g3_5 {C : JC} {x : Bool} {cc : ByteArray} {nL : Nat} {rm : Room} {rt : Option FieldType} {own : String} {res : Res} {ce sl : Nat} {M : Mem} {pc : Nat} {lv : List (Nat × Value)} {st : List Value} {β : Type} {r0 : β} {f : Option Nat → Option β} {index : Nat} {a : Option Nat} (hC : Ok C x cc nL rm rt own res) (hw : Cond.fieldLink own index RX3 (TX3 5).2.1 (TX3 5).2.2.1 ∈ BIG) (hdg : decode cc pc = .ok (.getfield index, 3)) (h : (gR 3 5 M a).bind f = some r0)
    (kk : ∀ v, gR 3 5 M a = some v → f v = some r0 → J C ce sl M (pc + 3) lv (va_rf v :: st)) : J C ce sl M pc lv (va_rf a :: st) := by
  obtain ⟨v, hv, hf⟩ := bnd h
  have kk := kk v hv hf
  obtain ⟨i, rfl, hv2⟩ := bnd hv
  split at hv2
  case isFalse => cases hv2
  case isTrue hi =>
  cases hv2
  obtain ⟨p, l, e, R, s, m, args, below, meth, c, H0, A, Q, nL0, G, ad0, n0⟩ := C
  obtain ⟨hx, hb, hml, hnl, hown, hts, hKK, hH0, hA, hlk, hrt, hR, hQ, hxt⟩ := hC
  intro ad H locs ls hW hAa hag hn hvl hvs hS hl
  have he := pool_at (G := G) (ad := ad) hi.1
  rw [ent_3 hi.2] at he
  have k2 := kk ad H locs ls hW hAa hag hn hvl (vs_c (Vok_rf (fun j e => hW.2.2 _ _ j hi.1 e)) (vs_t hvs)) hS hl
  rw [List.map_cons, phys_rf] at k2
  exact va_get (D := G.1) (ci := 3) (C := RX3) (T := TX3) (N := 13) hx hb hts inB3 hown hKK.1.1 hW.1 i he rfl 5 (by decide) (hts _ hw) (fun _ h9 => h9) rfl hdg k2
theorem J_p3_5 {C : JC} {x : Bool} {cc : ByteArray} {nL : Nat} {rm : Room} {rt : Option FieldType} {own : String} {res : Res} {ce sl : Nat} {M : Mem} {pc : Nat} {lv : List (Nat × Value)} {st : List Value} {β : Type} {r0 : β} {f : Mem → Option β} {index : Nat} {a : Option Nat} {v : Option Nat} (hC : Ok C x cc nL rm rt own res) (hin : isInit C) (hdc : (TX3 5).1 = own) (hw : Cond.fieldLink own index RX3 (TX3 5).2.1 (TX3 5).2.2.1 ∈ BIG) (hdg : decode cc pc = .ok (.putfield index, 3)) (h : (pR 3 5 M a v).bind f = some r0)
    (kk : ∀ M', pR 3 5 M a v = some M' → f M' = some r0 → J C ce sl M' (pc + 3) lv st) : J C ce sl M pc lv (va_rf v :: va_rf a :: st) := by
  obtain ⟨M', hv, hf⟩ := bnd h
  have kk := kk M' hv hf
  obtain ⟨i, rfl, hv2⟩ := bnd hv
  split at hv2
  case isFalse => cases hv2
  case isTrue hi =>
  cases hv2
  obtain ⟨p, l, e, R, s, m, args, below, meth, c, H0, A, Q, nL0, G, ad0, n0⟩ := C
  obtain ⟨hx, hb, hml, hnl, hown, hts, hKK, hH0, hA, hlk, hrt, hR, hQ, hxt⟩ := hC
  intro ad H locs ls hW hAa hag hn hvl hvs hS hl
  have he := pool_at (G := G) (ad := ad) hi.1
  rw [ent_3 hi.2] at he
  have hD := pool_D hW hAa
  have e2 : (pool G ad M).set i (ad i, .inr (3, [.int (mI M i 0), re ad (mR M i 1), re ad (mR M i 2), .int (mI M i 3), re ad (mR M i 4), re ad v, re ad (mR M i 6), .int (mI M i 7), re ad (mR M i 8), re ad (mR M i 9), .int (mI M i 10), re ad (mR M i 11), .long (mJ M i 12)])) = pool G ad (sR M i 5 v) := pool_set rfl hi.1 (by rw [ent_3 hi.2]; simp [sR, mI, mJ, mR, up2]) (fun j hj => ent_sR_ne hj)
  have e3 : phys ad (va_rf v) = re ad v := phys_rf ad v
  rw [List.map_cons, e3]
  skip
  exact va_putF (D := G.1) (ci := 3) (C := RX3) (T := TX3) (N := 13) (ty := tyX3 5) (v := re ad v) hx hb hts inB3 tyX3 tyX3_ok nmX3 hown hKK.1.1 hW.1 hD hS i he rfl 5 (by decide) (hts _ hw) (fun _ h9 => h9) rfl hin hdc (by decide +kernel) (by cases v <;> rfl) (by cases v <;> rfl) (Nat.le_of_ble_eq_true rfl) hdg (fun H1 locs1 hP1 hD1 hS1 => kk ad H1 locs1 ls ⟨by rw [← e2]; exact hP1, hW.2.1, wf_sR hW.2.2 (vs_h hvs)⟩ hAa hag hn hvl (vs_t (vs_t hvs)) hS1 hl)
theorem J_g3_6 {C : JC} {x : Bool} {cc : ByteArray} {nL : Nat} {rm : Room} {rt : Option FieldType} {own : String} {res : Res} {ce sl : Nat} {M : Mem} {pc : Nat} {lv : List (Nat × Value)} {st : List Value} {β : Type} {r0 : β} {f : Option Nat → Option β} {index : Nat} {a : Option Nat} (hC : Ok C x cc nL rm rt own res) (hw : Cond.fieldLink own index RX3 (TX3 6).2.1 (TX3 6).2.2.1 ∈ BIG) (hdg : decode cc pc = .ok (.getfield index, 3)) (h : (gR 3 6 M a).bind f = some r0)
    (kk : ∀ v, gR 3 6 M a = some v → f v = some r0 → J C ce sl M (pc + 3) lv (va_rf v :: st)) : J C ce sl M pc lv (va_rf a :: st) := by
  obtain ⟨v, hv, hf⟩ := bnd h
  have kk := kk v hv hf
  obtain ⟨i, rfl, hv2⟩ := bnd hv
  split at hv2
  case isFalse => cases hv2
  case isTrue hi =>
  cases hv2
  obtain ⟨p, l, e, R, s, m, args, below, meth, c, H0, A, Q, nL0, G, ad0, n0⟩ := C
  obtain ⟨hx, hb, hml, hnl, hown, hts, hKK, hH0, hA, hlk, hrt, hR, hQ, hxt⟩ := hC
  intro ad H locs ls hW hAa hag hn hvl hvs hS hl
  have he := pool_at (G := G) (ad := ad) hi.1
  rw [ent_3 hi.2] at he
  have k2 := kk ad H locs ls hW hAa hag hn hvl (vs_c (Vok_rf (fun j e => hW.2.2 _ _ j hi.1 e)) (vs_t hvs)) hS hl
  rw [List.map_cons, phys_rf] at k2
  exact va_get (D := G.1) (ci := 3) (C := RX3) (T := TX3) (N := 13) hx hb hts inB3 hown hKK.1.1 hW.1 i he rfl 6 (by decide) (hts _ hw) (fun _ h9 => h9) rfl hdg k2
theorem J_p3_6 {C : JC} {x : Bool} {cc : ByteArray} {nL : Nat} {rm : Room} {rt : Option FieldType} {own : String} {res : Res} {ce sl : Nat} {M : Mem} {pc : Nat} {lv : List (Nat × Value)} {st : List Value} {β : Type} {r0 : β} {f : Mem → Option β} {index : Nat} {a : Option Nat} {v : Option Nat} (hC : Ok C x cc nL rm rt own res) (hin : isInit C) (hdc : (TX3 6).1 = own) (hw : Cond.fieldLink own index RX3 (TX3 6).2.1 (TX3 6).2.2.1 ∈ BIG) (hdg : decode cc pc = .ok (.putfield index, 3)) (h : (pR 3 6 M a v).bind f = some r0)
    (kk : ∀ M', pR 3 6 M a v = some M' → f M' = some r0 → J C ce sl M' (pc + 3) lv st) : J C ce sl M pc lv (va_rf v :: va_rf a :: st) := by
  obtain ⟨M', hv, hf⟩ := bnd h
  have kk := kk M' hv hf
  obtain ⟨i, rfl, hv2⟩ := bnd hv
  split at hv2
  case isFalse => cases hv2
  case isTrue hi =>
  cases hv2
  obtain ⟨p, l, e, R, s, m, args, below, meth, c, H0, A, Q, nL0, G, ad0, n0⟩ := C
  obtain ⟨hx, hb, hml, hnl, hown, hts, hKK, hH0, hA, hlk, hrt, hR, hQ, hxt⟩ := hC
  intro ad H locs ls hW hAa hag hn hvl hvs hS hl
  have he := pool_at (G := G) (ad := ad) hi.1
  rw [ent_3 hi.2] at he
  have hD := pool_D hW hAa
  have e2 : (pool G ad M).set i (ad i, .inr (3, [.int (mI M i 0), re ad (mR M i 1), re ad (mR M i 2), .int (mI M i 3), re ad (mR M i 4), re ad (mR M i 5), re ad v, .int (mI M i 7), re ad (mR M i 8), re ad (mR M i 9), .int (mI M i 10), re ad (mR M i 11), .long (mJ M i 12)])) = pool G ad (sR M i 6 v) := pool_set rfl hi.1 (by rw [ent_3 hi.2]; simp [sR, mI, mJ, mR, up2]) (fun j hj => ent_sR_ne hj)
  have e3 : phys ad (va_rf v) = re ad v := phys_rf ad v
  rw [List.map_cons, e3]
  skip
  exact va_putF (D := G.1) (ci := 3) (C := RX3) (T := TX3) (N := 13) (ty := tyX3 6) (v := re ad v) hx hb hts inB3 tyX3 tyX3_ok nmX3 hown hKK.1.1 hW.1 hD hS i he rfl 6 (by decide) (hts _ hw) (fun _ h9 => h9) rfl hin hdc (by decide +kernel) (by cases v <;> rfl) (by cases v <;> rfl) (Nat.le_of_ble_eq_true rfl) hdg (fun H1 locs1 hP1 hD1 hS1 => kk ad H1 locs1 ls ⟨by rw [← e2]; exact hP1, hW.2.1, wf_sR hW.2.2 (vs_h hvs)⟩ hAa hag hn hvl (vs_t (vs_t hvs)) hS1 hl)
theorem J_g3_7 {C : JC} {x : Bool} {cc : ByteArray} {nL : Nat} {rm : Room} {rt : Option FieldType} {own : String} {res : Res} {ce sl : Nat} {M : Mem} {pc : Nat} {lv : List (Nat × Value)} {st : List Value} {β : Type} {r0 : β} {f : Int32 → Option β} {index : Nat} {a : Option Nat} (hC : Ok C x cc nL rm rt own res) (hw : Cond.fieldLink own index RX3 (TX3 7).2.1 (TX3 7).2.2.1 ∈ BIG) (hdg : decode cc pc = .ok (.getfield index, 3)) (h : (gI 3 7 M a).bind f = some r0)
    (kk : ∀ v, gI 3 7 M a = some v → f v = some r0 → J C ce sl M (pc + 3) lv (.int v :: st)) : J C ce sl M pc lv (va_rf a :: st) := by
  obtain ⟨v, hv, hf⟩ := bnd h
  have kk := kk v hv hf
  obtain ⟨i, rfl, hv2⟩ := bnd hv
  split at hv2
  case isFalse => cases hv2
  case isTrue hi =>
  cases hv2
  obtain ⟨p, l, e, R, s, m, args, below, meth, c, H0, A, Q, nL0, G, ad0, n0⟩ := C
  obtain ⟨hx, hb, hml, hnl, hown, hts, hKK, hH0, hA, hlk, hrt, hR, hQ, hxt⟩ := hC
  intro ad H locs ls hW hAa hag hn hvl hvs hS hl
  have he := pool_at (G := G) (ad := ad) hi.1
  rw [ent_3 hi.2] at he
  have k2 := kk ad H locs ls hW hAa hag hn hvl (vs_c Vok_int (vs_t hvs)) hS hl
  skip
  exact va_get (D := G.1) (ci := 3) (C := RX3) (T := TX3) (N := 13) hx hb hts inB3 hown hKK.1.1 hW.1 i he rfl 7 (by decide) (hts _ hw) (fun _ h9 => h9) rfl hdg k2
theorem J_p3_7 {C : JC} {x : Bool} {cc : ByteArray} {nL : Nat} {rm : Room} {rt : Option FieldType} {own : String} {res : Res} {ce sl : Nat} {M : Mem} {pc : Nat} {lv : List (Nat × Value)} {st : List Value} {β : Type} {r0 : β} {f : Mem → Option β} {index : Nat} {a : Option Nat} {v : Int32} (hC : Ok C x cc nL rm rt own res) (hw : Cond.fieldLink own index RX3 (TX3 7).2.1 (TX3 7).2.2.1 ∈ BIG) (hdg : decode cc pc = .ok (.putfield index, 3)) (h : (pI 3 7 M a v).bind f = some r0)
    (kk : ∀ M', pI 3 7 M a v = some M' → f M' = some r0 → J C ce sl M' (pc + 3) lv st) : J C ce sl M pc lv (.int v :: va_rf a :: st) := by
  obtain ⟨M', hv, hf⟩ := bnd h
  have kk := kk M' hv hf
  obtain ⟨i, rfl, hv2⟩ := bnd hv
  split at hv2
  case isFalse => cases hv2
  case isTrue hi =>
  cases hv2
  obtain ⟨p, l, e, R, s, m, args, below, meth, c, H0, A, Q, nL0, G, ad0, n0⟩ := C
  obtain ⟨hx, hb, hml, hnl, hown, hts, hKK, hH0, hA, hlk, hrt, hR, hQ, hxt⟩ := hC
  intro ad H locs ls hW hAa hag hn hvl hvs hS hl
  have he := pool_at (G := G) (ad := ad) hi.1
  rw [ent_3 hi.2] at he
  have hD := pool_D hW hAa
  have e2 : (pool G ad M).set i (ad i, .inr (3, [.int (mI M i 0), re ad (mR M i 1), re ad (mR M i 2), .int (mI M i 3), re ad (mR M i 4), re ad (mR M i 5), re ad (mR M i 6), .int v, re ad (mR M i 8), re ad (mR M i 9), .int (mI M i 10), re ad (mR M i 11), .long (mJ M i 12)])) = pool G ad (sI M i 7 v) := pool_set rfl hi.1 (by rw [ent_3 hi.2]; simp [sI, mI, mJ, mR, up2]) (fun j hj => ent_sI_ne hj)
  skip
  skip
  skip
  exact va_put (D := G.1) (ci := 3) (C := RX3) (T := TX3) (N := 13) (ty := tyX3 7) (v := .int v) hx hb hts inB3 tyX3 tyX3_ok nmX3 hown hKK.1.1 hW.1 hD hS i he rfl 7 (by decide) (hts _ hw) (fun _ h9 => h9) rfl (by decide +kernel) rfl rfl (Nat.le_of_ble_eq_true rfl) hdg (fun H1 locs1 hP1 hD1 hS1 => kk ad H1 locs1 ls ⟨by rw [← e2]; exact hP1, hW.2.1, hW.2.2⟩ hAa hag hn hvl (vs_t (vs_t hvs)) hS1 hl)
theorem J_g3_8 {C : JC} {x : Bool} {cc : ByteArray} {nL : Nat} {rm : Room} {rt : Option FieldType} {own : String} {res : Res} {ce sl : Nat} {M : Mem} {pc : Nat} {lv : List (Nat × Value)} {st : List Value} {β : Type} {r0 : β} {f : Option Nat → Option β} {index : Nat} {a : Option Nat} (hC : Ok C x cc nL rm rt own res) (hw : Cond.fieldLink own index RX3 (TX3 8).2.1 (TX3 8).2.2.1 ∈ BIG) (hdg : decode cc pc = .ok (.getfield index, 3)) (h : (gR 3 8 M a).bind f = some r0)
    (kk : ∀ v, gR 3 8 M a = some v → f v = some r0 → J C ce sl M (pc + 3) lv (va_rf v :: st)) : J C ce sl M pc lv (va_rf a :: st) := by
  obtain ⟨v, hv, hf⟩ := bnd h
  have kk := kk v hv hf
  obtain ⟨i, rfl, hv2⟩ := bnd hv
  split at hv2
  case isFalse => cases hv2
  case isTrue hi =>
  cases hv2
  obtain ⟨p, l, e, R, s, m, args, below, meth, c, H0, A, Q, nL0, G, ad0, n0⟩ := C
  obtain ⟨hx, hb, hml, hnl, hown, hts, hKK, hH0, hA, hlk, hrt, hR, hQ, hxt⟩ := hC
  intro ad H locs ls hW hAa hag hn hvl hvs hS hl
  have he := pool_at (G := G) (ad := ad) hi.1
  rw [ent_3 hi.2] at he
  have k2 := kk ad H locs ls hW hAa hag hn hvl (vs_c (Vok_rf (fun j e => hW.2.2 _ _ j hi.1 e)) (vs_t hvs)) hS hl
  rw [List.map_cons, phys_rf] at k2
  exact va_get (D := G.1) (ci := 3) (C := RX3) (T := TX3) (N := 13) hx hb hts inB3 hown hKK.1.1 hW.1 i he rfl 8 (by decide) (hts _ hw) (fun _ h9 => h9) rfl hdg k2
theorem J_p3_8 {C : JC} {x : Bool} {cc : ByteArray} {nL : Nat} {rm : Room} {rt : Option FieldType} {own : String} {res : Res} {ce sl : Nat} {M : Mem} {pc : Nat} {lv : List (Nat × Value)} {st : List Value} {β : Type} {r0 : β} {f : Mem → Option β} {index : Nat} {a : Option Nat} {v : Option Nat} (hC : Ok C x cc nL rm rt own res) (hin : isInit C) (hdc : (TX3 8).1 = own) (hw : Cond.fieldLink own index RX3 (TX3 8).2.1 (TX3 8).2.2.1 ∈ BIG) (hdg : decode cc pc = .ok (.putfield index, 3)) (h : (pR 3 8 M a v).bind f = some r0)
    (kk : ∀ M', pR 3 8 M a v = some M' → f M' = some r0 → J C ce sl M' (pc + 3) lv st) : J C ce sl M pc lv (va_rf v :: va_rf a :: st) := by
  obtain ⟨M', hv, hf⟩ := bnd h
  have kk := kk M' hv hf
  obtain ⟨i, rfl, hv2⟩ := bnd hv
  split at hv2
  case isFalse => cases hv2
  case isTrue hi =>
  cases hv2
  obtain ⟨p, l, e, R, s, m, args, below, meth, c, H0, A, Q, nL0, G, ad0, n0⟩ := C
  obtain ⟨hx, hb, hml, hnl, hown, hts, hKK, hH0, hA, hlk, hrt, hR, hQ, hxt⟩ := hC
  intro ad H locs ls hW hAa hag hn hvl hvs hS hl
  have he := pool_at (G := G) (ad := ad) hi.1
  rw [ent_3 hi.2] at he
  have hD := pool_D hW hAa
  have e2 : (pool G ad M).set i (ad i, .inr (3, [.int (mI M i 0), re ad (mR M i 1), re ad (mR M i 2), .int (mI M i 3), re ad (mR M i 4), re ad (mR M i 5), re ad (mR M i 6), .int (mI M i 7), re ad v, re ad (mR M i 9), .int (mI M i 10), re ad (mR M i 11), .long (mJ M i 12)])) = pool G ad (sR M i 8 v) := pool_set rfl hi.1 (by rw [ent_3 hi.2]; simp [sR, mI, mJ, mR, up2]) (fun j hj => ent_sR_ne hj)
  have e3 : phys ad (va_rf v) = re ad v := phys_rf ad v
  rw [List.map_cons, e3]
  skip
  exact va_putF (D := G.1) (ci := 3) (C := RX3) (T := TX3) (N := 13) (ty := tyX3 8) (v := re ad v) hx hb hts inB3 tyX3 tyX3_ok nmX3 hown hKK.1.1 hW.1 hD hS i he rfl 8 (by decide) (hts _ hw) (fun _ h9 => h9) rfl hin hdc (by decide +kernel) (by cases v <;> rfl) (by cases v <;> rfl) (Nat.le_of_ble_eq_true rfl) hdg (fun H1 locs1 hP1 hD1 hS1 => kk ad H1 locs1 ls ⟨by rw [← e2]; exact hP1, hW.2.1, wf_sR hW.2.2 (vs_h hvs)⟩ hAa hag hn hvl (vs_t (vs_t hvs)) hS1 hl)
theorem J_g3_9 {C : JC} {x : Bool} {cc : ByteArray} {nL : Nat} {rm : Room} {rt : Option FieldType} {own : String} {res : Res} {ce sl : Nat} {M : Mem} {pc : Nat} {lv : List (Nat × Value)} {st : List Value} {β : Type} {r0 : β} {f : Option Nat → Option β} {index : Nat} {a : Option Nat} (hC : Ok C x cc nL rm rt own res) (hw : Cond.fieldLink own index RX3 (TX3 9).2.1 (TX3 9).2.2.1 ∈ BIG) (hdg : decode cc pc = .ok (.getfield index, 3)) (h : (gR 3 9 M a).bind f = some r0)
    (kk : ∀ v, gR 3 9 M a = some v → f v = some r0 → J C ce sl M (pc + 3) lv (va_rf v :: st)) : J C ce sl M pc lv (va_rf a :: st) := by
  obtain ⟨v, hv, hf⟩ := bnd h
  have kk := kk v hv hf
  obtain ⟨i, rfl, hv2⟩ := bnd hv
  split at hv2
  case isFalse => cases hv2
  case isTrue hi =>
  cases hv2
  obtain ⟨p, l, e, R, s, m, args, below, meth, c, H0, A, Q, nL0, G, ad0, n0⟩ := C
  obtain ⟨hx, hb, hml, hnl, hown, hts, hKK, hH0, hA, hlk, hrt, hR, hQ, hxt⟩ := hC
  intro ad H locs ls hW hAa hag hn hvl hvs hS hl
  have he := pool_at (G := G) (ad := ad) hi.1
  rw [ent_3 hi.2] at he
  have k2 := kk ad H locs ls hW hAa hag hn hvl (vs_c (Vok_rf (fun j e => hW.2.2 _ _ j hi.1 e)) (vs_t hvs)) hS hl
  rw [List.map_cons, phys_rf] at k2
  exact va_get (D := G.1) (ci := 3) (C := RX3) (T := TX3) (N := 13) hx hb hts inB3 hown hKK.1.1 hW.1 i he rfl 9 (by decide) (hts _ hw) (fun _ h9 => h9) rfl hdg k2
theorem J_p3_9 {C : JC} {x : Bool} {cc : ByteArray} {nL : Nat} {rm : Room} {rt : Option FieldType} {own : String} {res : Res} {ce sl : Nat} {M : Mem} {pc : Nat} {lv : List (Nat × Value)} {st : List Value} {β : Type} {r0 : β} {f : Mem → Option β} {index : Nat} {a : Option Nat} {v : Option Nat} (hC : Ok C x cc nL rm rt own res) (hin : isInit C) (hdc : (TX3 9).1 = own) (hw : Cond.fieldLink own index RX3 (TX3 9).2.1 (TX3 9).2.2.1 ∈ BIG) (hdg : decode cc pc = .ok (.putfield index, 3)) (h : (pR 3 9 M a v).bind f = some r0)
    (kk : ∀ M', pR 3 9 M a v = some M' → f M' = some r0 → J C ce sl M' (pc + 3) lv st) : J C ce sl M pc lv (va_rf v :: va_rf a :: st) := by
  obtain ⟨M', hv, hf⟩ := bnd h
  have kk := kk M' hv hf
  obtain ⟨i, rfl, hv2⟩ := bnd hv
  split at hv2
  case isFalse => cases hv2
  case isTrue hi =>
  cases hv2
  obtain ⟨p, l, e, R, s, m, args, below, meth, c, H0, A, Q, nL0, G, ad0, n0⟩ := C
  obtain ⟨hx, hb, hml, hnl, hown, hts, hKK, hH0, hA, hlk, hrt, hR, hQ, hxt⟩ := hC
  intro ad H locs ls hW hAa hag hn hvl hvs hS hl
  have he := pool_at (G := G) (ad := ad) hi.1
  rw [ent_3 hi.2] at he
  have hD := pool_D hW hAa
  have e2 : (pool G ad M).set i (ad i, .inr (3, [.int (mI M i 0), re ad (mR M i 1), re ad (mR M i 2), .int (mI M i 3), re ad (mR M i 4), re ad (mR M i 5), re ad (mR M i 6), .int (mI M i 7), re ad (mR M i 8), re ad v, .int (mI M i 10), re ad (mR M i 11), .long (mJ M i 12)])) = pool G ad (sR M i 9 v) := pool_set rfl hi.1 (by rw [ent_3 hi.2]; simp [sR, mI, mJ, mR, up2]) (fun j hj => ent_sR_ne hj)
  have e3 : phys ad (va_rf v) = re ad v := phys_rf ad v
  rw [List.map_cons, e3]
  skip
  exact va_putF (D := G.1) (ci := 3) (C := RX3) (T := TX3) (N := 13) (ty := tyX3 9) (v := re ad v) hx hb hts inB3 tyX3 tyX3_ok nmX3 hown hKK.1.1 hW.1 hD hS i he rfl 9 (by decide) (hts _ hw) (fun _ h9 => h9) rfl hin hdc (by decide +kernel) (by cases v <;> rfl) (by cases v <;> rfl) (Nat.le_of_ble_eq_true rfl) hdg (fun H1 locs1 hP1 hD1 hS1 => kk ad H1 locs1 ls ⟨by rw [← e2]; exact hP1, hW.2.1, wf_sR hW.2.2 (vs_h hvs)⟩ hAa hag hn hvl (vs_t (vs_t hvs)) hS1 hl)
theorem J_g3_10 {C : JC} {x : Bool} {cc : ByteArray} {nL : Nat} {rm : Room} {rt : Option FieldType} {own : String} {res : Res} {ce sl : Nat} {M : Mem} {pc : Nat} {lv : List (Nat × Value)} {st : List Value} {β : Type} {r0 : β} {f : Int32 → Option β} {index : Nat} {a : Option Nat} (hC : Ok C x cc nL rm rt own res) (hw : Cond.fieldLink own index RX3 (TX3 10).2.1 (TX3 10).2.2.1 ∈ BIG) (hdg : decode cc pc = .ok (.getfield index, 3)) (h : (gI 3 10 M a).bind f = some r0)
    (kk : ∀ v, gI 3 10 M a = some v → f v = some r0 → J C ce sl M (pc + 3) lv (.int v :: st)) : J C ce sl M pc lv (va_rf a :: st) := by
  obtain ⟨v, hv, hf⟩ := bnd h
  have kk := kk v hv hf
  obtain ⟨i, rfl, hv2⟩ := bnd hv
  split at hv2
  case isFalse => cases hv2
  case isTrue hi =>
  cases hv2
  obtain ⟨p, l, e, R, s, m, args, below, meth, c, H0, A, Q, nL0, G, ad0, n0⟩ := C
  obtain ⟨hx, hb, hml, hnl, hown, hts, hKK, hH0, hA, hlk, hrt, hR, hQ, hxt⟩ := hC
  intro ad H locs ls hW hAa hag hn hvl hvs hS hl
  have he := pool_at (G := G) (ad := ad) hi.1
  rw [ent_3 hi.2] at he
  have k2 := kk ad H locs ls hW hAa hag hn hvl (vs_c Vok_int (vs_t hvs)) hS hl
  skip
  exact va_get (D := G.1) (ci := 3) (C := RX3) (T := TX3) (N := 13) hx hb hts inB3 hown hKK.1.1 hW.1 i he rfl 10 (by decide) (hts _ hw) (fun _ h9 => h9) rfl hdg k2
theorem J_p3_10 {C : JC} {x : Bool} {cc : ByteArray} {nL : Nat} {rm : Room} {rt : Option FieldType} {own : String} {res : Res} {ce sl : Nat} {M : Mem} {pc : Nat} {lv : List (Nat × Value)} {st : List Value} {β : Type} {r0 : β} {f : Mem → Option β} {index : Nat} {a : Option Nat} {v : Int32} (hC : Ok C x cc nL rm rt own res) (hw : Cond.fieldLink own index RX3 (TX3 10).2.1 (TX3 10).2.2.1 ∈ BIG) (hdg : decode cc pc = .ok (.putfield index, 3)) (h : (pI 3 10 M a v).bind f = some r0)
    (kk : ∀ M', pI 3 10 M a v = some M' → f M' = some r0 → J C ce sl M' (pc + 3) lv st) : J C ce sl M pc lv (.int v :: va_rf a :: st) := by
  obtain ⟨M', hv, hf⟩ := bnd h
  have kk := kk M' hv hf
  obtain ⟨i, rfl, hv2⟩ := bnd hv
  split at hv2
  case isFalse => cases hv2
  case isTrue hi =>
  cases hv2
  obtain ⟨p, l, e, R, s, m, args, below, meth, c, H0, A, Q, nL0, G, ad0, n0⟩ := C
  obtain ⟨hx, hb, hml, hnl, hown, hts, hKK, hH0, hA, hlk, hrt, hR, hQ, hxt⟩ := hC
  intro ad H locs ls hW hAa hag hn hvl hvs hS hl
  have he := pool_at (G := G) (ad := ad) hi.1
  rw [ent_3 hi.2] at he
  have hD := pool_D hW hAa
  have e2 : (pool G ad M).set i (ad i, .inr (3, [.int (mI M i 0), re ad (mR M i 1), re ad (mR M i 2), .int (mI M i 3), re ad (mR M i 4), re ad (mR M i 5), re ad (mR M i 6), .int (mI M i 7), re ad (mR M i 8), re ad (mR M i 9), .int v, re ad (mR M i 11), .long (mJ M i 12)])) = pool G ad (sI M i 10 v) := pool_set rfl hi.1 (by rw [ent_3 hi.2]; simp [sI, mI, mJ, mR, up2]) (fun j hj => ent_sI_ne hj)
  skip
  skip
  skip
  exact va_put (D := G.1) (ci := 3) (C := RX3) (T := TX3) (N := 13) (ty := tyX3 10) (v := .int v) hx hb hts inB3 tyX3 tyX3_ok nmX3 hown hKK.1.1 hW.1 hD hS i he rfl 10 (by decide) (hts _ hw) (fun _ h9 => h9) rfl (by decide +kernel) rfl rfl (Nat.le_of_ble_eq_true rfl) hdg (fun H1 locs1 hP1 hD1 hS1 => kk ad H1 locs1 ls ⟨by rw [← e2]; exact hP1, hW.2.1, hW.2.2⟩ hAa hag hn hvl (vs_t (vs_t hvs)) hS1 hl)
theorem J_g3_11 {C : JC} {x : Bool} {cc : ByteArray} {nL : Nat} {rm : Room} {rt : Option FieldType} {own : String} {res : Res} {ce sl : Nat} {M : Mem} {pc : Nat} {lv : List (Nat × Value)} {st : List Value} {β : Type} {r0 : β} {f : Option Nat → Option β} {index : Nat} {a : Option Nat} (hC : Ok C x cc nL rm rt own res) (hw : Cond.fieldLink own index RX3 (TX3 11).2.1 (TX3 11).2.2.1 ∈ BIG) (hdg : decode cc pc = .ok (.getfield index, 3)) (h : (gR 3 11 M a).bind f = some r0)
    (kk : ∀ v, gR 3 11 M a = some v → f v = some r0 → J C ce sl M (pc + 3) lv (va_rf v :: st)) : J C ce sl M pc lv (va_rf a :: st) := by
  obtain ⟨v, hv, hf⟩ := bnd h
  have kk := kk v hv hf
  obtain ⟨i, rfl, hv2⟩ := bnd hv
  split at hv2
  case isFalse => cases hv2
  case isTrue hi =>
  cases hv2
  obtain ⟨p, l, e, R, s, m, args, below, meth, c, H0, A, Q, nL0, G, ad0, n0⟩ := C
  obtain ⟨hx, hb, hml, hnl, hown, hts, hKK, hH0, hA, hlk, hrt, hR, hQ, hxt⟩ := hC
  intro ad H locs ls hW hAa hag hn hvl hvs hS hl
  have he := pool_at (G := G) (ad := ad) hi.1
  rw [ent_3 hi.2] at he
  have k2 := kk ad H locs ls hW hAa hag hn hvl (vs_c (Vok_rf (fun j e => hW.2.2 _ _ j hi.1 e)) (vs_t hvs)) hS hl
  rw [List.map_cons, phys_rf] at k2
  exact va_get (D := G.1) (ci := 3) (C := RX3) (T := TX3) (N := 13) hx hb hts inB3 hown hKK.1.1 hW.1 i he rfl 11 (by decide) (hts _ hw) (fun _ h9 => h9) rfl hdg k2
theorem J_p3_11 {C : JC} {x : Bool} {cc : ByteArray} {nL : Nat} {rm : Room} {rt : Option FieldType} {own : String} {res : Res} {ce sl : Nat} {M : Mem} {pc : Nat} {lv : List (Nat × Value)} {st : List Value} {β : Type} {r0 : β} {f : Mem → Option β} {index : Nat} {a : Option Nat} {v : Option Nat} (hC : Ok C x cc nL rm rt own res) (hin : isInit C) (hdc : (TX3 11).1 = own) (hw : Cond.fieldLink own index RX3 (TX3 11).2.1 (TX3 11).2.2.1 ∈ BIG) (hdg : decode cc pc = .ok (.putfield index, 3)) (h : (pR 3 11 M a v).bind f = some r0)
    (kk : ∀ M', pR 3 11 M a v = some M' → f M' = some r0 → J C ce sl M' (pc + 3) lv st) : J C ce sl M pc lv (va_rf v :: va_rf a :: st) := by
  obtain ⟨M', hv, hf⟩ := bnd h
  have kk := kk M' hv hf
  obtain ⟨i, rfl, hv2⟩ := bnd hv
  split at hv2
  case isFalse => cases hv2
  case isTrue hi =>
  cases hv2
  obtain ⟨p, l, e, R, s, m, args, below, meth, c, H0, A, Q, nL0, G, ad0, n0⟩ := C
  obtain ⟨hx, hb, hml, hnl, hown, hts, hKK, hH0, hA, hlk, hrt, hR, hQ, hxt⟩ := hC
  intro ad H locs ls hW hAa hag hn hvl hvs hS hl
  have he := pool_at (G := G) (ad := ad) hi.1
  rw [ent_3 hi.2] at he
  have hD := pool_D hW hAa
  have e2 : (pool G ad M).set i (ad i, .inr (3, [.int (mI M i 0), re ad (mR M i 1), re ad (mR M i 2), .int (mI M i 3), re ad (mR M i 4), re ad (mR M i 5), re ad (mR M i 6), .int (mI M i 7), re ad (mR M i 8), re ad (mR M i 9), .int (mI M i 10), re ad v, .long (mJ M i 12)])) = pool G ad (sR M i 11 v) := pool_set rfl hi.1 (by rw [ent_3 hi.2]; simp [sR, mI, mJ, mR, up2]) (fun j hj => ent_sR_ne hj)
  have e3 : phys ad (va_rf v) = re ad v := phys_rf ad v
  rw [List.map_cons, e3]
  skip
  exact va_putF (D := G.1) (ci := 3) (C := RX3) (T := TX3) (N := 13) (ty := tyX3 11) (v := re ad v) hx hb hts inB3 tyX3 tyX3_ok nmX3 hown hKK.1.1 hW.1 hD hS i he rfl 11 (by decide) (hts _ hw) (fun _ h9 => h9) rfl hin hdc (by decide +kernel) (by cases v <;> rfl) (by cases v <;> rfl) (Nat.le_of_ble_eq_true rfl) hdg (fun H1 locs1 hP1 hD1 hS1 => kk ad H1 locs1 ls ⟨by rw [← e2]; exact hP1, hW.2.1, wf_sR hW.2.2 (vs_h hvs)⟩ hAa hag hn hvl (vs_t (vs_t hvs)) hS1 hl)
theorem J_g3_12 {C : JC} {x : Bool} {cc : ByteArray} {nL : Nat} {rm : Room} {rt : Option FieldType} {own : String} {res : Res} {ce sl : Nat} {M : Mem} {pc : Nat} {lv : List (Nat × Value)} {st : List Value} {β : Type} {r0 : β} {f : Int64 → Option β} {index : Nat} {a : Option Nat} (hC : Ok C x cc nL rm rt own res) (hw : Cond.fieldLink own index RX3 (TX3 12).2.1 (TX3 12).2.2.1 ∈ BIG) (hdg : decode cc pc = .ok (.getfield index, 3)) (h : (gJ 3 12 M a).bind f = some r0)
    (kk : ∀ v, gJ 3 12 M a = some v → f v = some r0 → J C ce sl M (pc + 3) lv (.long v :: st)) : J C ce sl M pc lv (va_rf a :: st) := by
  obtain ⟨v, hv, hf⟩ := bnd h
  have kk := kk v hv hf
  obtain ⟨i, rfl, hv2⟩ := bnd hv
  split at hv2
  case isFalse => cases hv2
  case isTrue hi =>
  cases hv2
  obtain ⟨p, l, e, R, s, m, args, below, meth, c, H0, A, Q, nL0, G, ad0, n0⟩ := C
  obtain ⟨hx, hb, hml, hnl, hown, hts, hKK, hH0, hA, hlk, hrt, hR, hQ, hxt⟩ := hC
  intro ad H locs ls hW hAa hag hn hvl hvs hS hl
  have he := pool_at (G := G) (ad := ad) hi.1
  rw [ent_3 hi.2] at he
  have k2 := kk ad H locs ls hW hAa hag hn hvl (vs_c Vok_long (vs_t hvs)) hS hl
  skip
  exact va_get (D := G.1) (ci := 3) (C := RX3) (T := TX3) (N := 13) hx hb hts inB3 hown hKK.1.1 hW.1 i he rfl 12 (by decide) (hts _ hw) (fun _ h9 => h9) rfl hdg k2
theorem J_p3_12 {C : JC} {x : Bool} {cc : ByteArray} {nL : Nat} {rm : Room} {rt : Option FieldType} {own : String} {res : Res} {ce sl : Nat} {M : Mem} {pc : Nat} {lv : List (Nat × Value)} {st : List Value} {β : Type} {r0 : β} {f : Mem → Option β} {index : Nat} {a : Option Nat} {v : Int64} (hC : Ok C x cc nL rm rt own res) (hw : Cond.fieldLink own index RX3 (TX3 12).2.1 (TX3 12).2.2.1 ∈ BIG) (hdg : decode cc pc = .ok (.putfield index, 3)) (h : (pJ 3 12 M a v).bind f = some r0)
    (kk : ∀ M', pJ 3 12 M a v = some M' → f M' = some r0 → J C ce sl M' (pc + 3) lv st) : J C ce sl M pc lv (.long v :: va_rf a :: st) := by
  obtain ⟨M', hv, hf⟩ := bnd h
  have kk := kk M' hv hf
  obtain ⟨i, rfl, hv2⟩ := bnd hv
  split at hv2
  case isFalse => cases hv2
  case isTrue hi =>
  cases hv2
  obtain ⟨p, l, e, R, s, m, args, below, meth, c, H0, A, Q, nL0, G, ad0, n0⟩ := C
  obtain ⟨hx, hb, hml, hnl, hown, hts, hKK, hH0, hA, hlk, hrt, hR, hQ, hxt⟩ := hC
  intro ad H locs ls hW hAa hag hn hvl hvs hS hl
  have he := pool_at (G := G) (ad := ad) hi.1
  rw [ent_3 hi.2] at he
  have hD := pool_D hW hAa
  have e2 : (pool G ad M).set i (ad i, .inr (3, [.int (mI M i 0), re ad (mR M i 1), re ad (mR M i 2), .int (mI M i 3), re ad (mR M i 4), re ad (mR M i 5), re ad (mR M i 6), .int (mI M i 7), re ad (mR M i 8), re ad (mR M i 9), .int (mI M i 10), re ad (mR M i 11), .long v])) = pool G ad (sJ M i 12 v) := pool_set rfl hi.1 (by rw [ent_3 hi.2]; simp [sJ, mI, mJ, mR, up2]) (fun j hj => ent_sJ_ne hj)
  skip
  skip
  skip
  exact va_put (D := G.1) (ci := 3) (C := RX3) (T := TX3) (N := 13) (ty := tyX3 12) (v := .long v) hx hb hts inB3 tyX3 tyX3_ok nmX3 hown hKK.1.1 hW.1 hD hS i he rfl 12 (by decide) (hts _ hw) (fun _ h9 => h9) rfl (by decide +kernel) rfl rfl (Nat.le_of_ble_eq_true rfl) hdg (fun H1 locs1 hP1 hD1 hS1 => kk ad H1 locs1 ls ⟨by rw [← e2]; exact hP1, hW.2.1, hW.2.2⟩ hAa hag hn hvl (vs_t (vs_t hvs)) hS1 hl)
theorem J_iald {C : JC} {x : Bool} {cc : ByteArray} {nL : Nat} {rm : Room} {rt : Option FieldType} {own : String} {res : Res} {ce sl : Nat} {M : Mem} {pc : Nat} {lv : List (Nat × Value)} {st : List Value} {β : Type} {r0 : β} {f : Int32 → Option β} {a : Option Nat} {z : Int32} (hC : Ok C x cc nL rm rt own res) (hdg : decode cc pc = .ok (.iaload, 1)) (h : (aI M a z).bind f = some r0)
    (kk : ∀ v, aI M a z = some v → f v = some r0 → J C ce sl M (pc + 1) lv (.int v :: st)) : J C ce sl M pc lv (.int z :: va_rf a :: st) := by
  obtain ⟨v, hv, hf⟩ := bnd h
  have kk := kk v hv hf
  obtain ⟨i, rfl, hv2⟩ := bnd hv
  split at hv2
  case isFalse => cases hv2
  case isTrue hi =>
  cases hv2
  obtain ⟨p, l, e, R, s, m, args, below, meth, c, H0, A, Q, nL0, G, ad0, n0⟩ := C
  obtain ⟨hx, hb, hml, hnl, hown, hts, hKK, hH0, hA, hlk, hrt, hR, hQ, hxt⟩ := hC
  intro ad H locs ls hW hAa hag hn hvl hvs hS hl
  have he := pool_at (G := G) (ad := ad) hi.1
  rw [ent_4 hi.2.1] at he
  have k2 := kk ad H locs ls hW hAa hag hn hvl (vs_c Vok_int (vs_t (vs_t hvs))) hS hl
  skip
  exact va_iald hx hb hKK.1.1 hW.1 i 0 he rfl (inRb_vp hi.2.2) hdg k2
theorem J_lald {C : JC} {x : Bool} {cc : ByteArray} {nL : Nat} {rm : Room} {rt : Option FieldType} {own : String} {res : Res} {ce sl : Nat} {M : Mem} {pc : Nat} {lv : List (Nat × Value)} {st : List Value} {β : Type} {r0 : β} {f : Int64 → Option β} {a : Option Nat} {z : Int32} (hC : Ok C x cc nL rm rt own res) (hdg : decode cc pc = .ok (.laload, 1)) (h : (aJ M a z).bind f = some r0)
    (kk : ∀ v, aJ M a z = some v → f v = some r0 → J C ce sl M (pc + 1) lv (.long v :: st)) : J C ce sl M pc lv (.int z :: va_rf a :: st) := by
  obtain ⟨v, hv, hf⟩ := bnd h
  have kk := kk v hv hf
  obtain ⟨i, rfl, hv2⟩ := bnd hv
  split at hv2
  case isFalse => cases hv2
  case isTrue hi =>
  cases hv2
  obtain ⟨p, l, e, R, s, m, args, below, meth, c, H0, A, Q, nL0, G, ad0, n0⟩ := C
  obtain ⟨hx, hb, hml, hnl, hown, hts, hKK, hH0, hA, hlk, hrt, hR, hQ, hxt⟩ := hC
  intro ad H locs ls hW hAa hag hn hvl hvs hS hl
  have he := pool_at (G := G) (ad := ad) hi.1
  rw [ent_5 hi.2.1] at he
  have k2 := kk ad H locs ls hW hAa hag hn hvl (vs_c Vok_long (vs_t (vs_t hvs))) hS hl
  skip
  exact va_lald hx hb hKK.1.1 hW.1 i 1 he rfl (inRb_vp hi.2.2) hdg k2
theorem J_zald {C : JC} {x : Bool} {cc : ByteArray} {nL : Nat} {rm : Room} {rt : Option FieldType} {own : String} {res : Res} {ce sl : Nat} {M : Mem} {pc : Nat} {lv : List (Nat × Value)} {st : List Value} {β : Type} {r0 : β} {f : Int32 → Option β} {a : Option Nat} {z : Int32} (hC : Ok C x cc nL rm rt own res) (hdg : decode cc pc = .ok (.baload, 1)) (h : (aZ M a z).bind f = some r0)
    (kk : ∀ v, aZ M a z = some v → f v = some r0 → J C ce sl M (pc + 1) lv (.int v :: st)) : J C ce sl M pc lv (.int z :: va_rf a :: st) := by
  obtain ⟨v, hv, hf⟩ := bnd h
  have kk := kk v hv hf
  obtain ⟨i, rfl, hv2⟩ := bnd hv
  split at hv2
  case isFalse => cases hv2
  case isTrue hi =>
  cases hv2
  obtain ⟨p, l, e, R, s, m, args, below, meth, c, H0, A, Q, nL0, G, ad0, n0⟩ := C
  obtain ⟨hx, hb, hml, hnl, hown, hts, hKK, hH0, hA, hlk, hrt, hR, hQ, hxt⟩ := hC
  intro ad H locs ls hW hAa hag hn hvl hvs hS hl
  have he := pool_at (G := G) (ad := ad) hi.1
  rw [ent_6 hi.2.1] at he
  have k2 := kk ad H locs ls hW hAa hag hn hvl (vs_c Vok_int (vs_t (vs_t hvs))) hS hl
  skip
  exact va_zald hx hb hKK.1.1 hW.1 i 2 he rfl (inRb_vp hi.2.2) hdg k2
theorem J_dald {C : JC} {x : Bool} {cc : ByteArray} {nL : Nat} {rm : Room} {rt : Option FieldType} {own : String} {res : Res} {ce sl : Nat} {M : Mem} {pc : Nat} {lv : List (Nat × Value)} {st : List Value} {β : Type} {r0 : β} {f : UInt64 → Option β} {a : Option Nat} {z : Int32} (hC : Ok C x cc nL rm rt own res) (hdg : decode cc pc = .ok (.daload, 1)) (h : (aD M a z).bind f = some r0)
    (kk : ∀ v, aD M a z = some v → f v = some r0 → J C ce sl M (pc + 1) lv (.double v :: st)) : J C ce sl M pc lv (.int z :: va_rf a :: st) := by
  obtain ⟨v, hv, hf⟩ := bnd h
  have kk := kk v hv hf
  obtain ⟨i, rfl, hv2⟩ := bnd hv
  split at hv2
  case isFalse => cases hv2
  case isTrue hi =>
  cases hv2
  obtain ⟨p, l, e, R, s, m, args, below, meth, c, H0, A, Q, nL0, G, ad0, n0⟩ := C
  obtain ⟨hx, hb, hml, hnl, hown, hts, hKK, hH0, hA, hlk, hrt, hR, hQ, hxt⟩ := hC
  intro ad H locs ls hW hAa hag hn hvl hvs hS hl
  have he := pool_at (G := G) (ad := ad) hi.1
  rw [ent_10 hi.2.1] at he
  have k2 := kk ad H locs ls hW hAa hag hn hvl (vs_c Vok_double (vs_t (vs_t hvs))) hS hl
  skip
  exact va_dald hx hb hKK.1.1 hW.1 i 6 he rfl (inRb_vp hi.2.2) hdg k2
theorem J_aald7 {C : JC} {x : Bool} {cc : ByteArray} {nL : Nat} {rm : Room} {rt : Option FieldType} {own : String} {res : Res} {ce sl : Nat} {M : Mem} {pc : Nat} {lv : List (Nat × Value)} {st : List Value} {β : Type} {r0 : β} {f : Option Nat → Option β} {a : Option Nat} {z : Int32} (hC : Ok C x cc nL rm rt own res) (hdg : decode cc pc = .ok (.aaload, 1)) (h : (aR 7 M a z).bind f = some r0)
    (kk : ∀ v, aR 7 M a z = some v → f v = some r0 → J C ce sl M (pc + 1) lv (va_rf v :: st)) : J C ce sl M pc lv (.int z :: va_rf a :: st) := by
  obtain ⟨v, hv, hf⟩ := bnd h
  have kk := kk v hv hf
  obtain ⟨i, rfl, hv2⟩ := bnd hv
  split at hv2
  case isFalse => cases hv2
  case isTrue hi =>
  cases hv2
  obtain ⟨p, l, e, R, s, m, args, below, meth, c, H0, A, Q, nL0, G, ad0, n0⟩ := C
  obtain ⟨hx, hb, hml, hnl, hown, hts, hKK, hH0, hA, hlk, hrt, hR, hQ, hxt⟩ := hC
  intro ad H locs ls hW hAa hag hn hvl hvs hS hl
  have he := pool_at (G := G) (ad := ad) hi.1
  rw [ent_7 hi.2.1] at he
  have k2 := kk ad H locs ls hW hAa hag hn hvl (vs_c (Vok_rf (fun j e => hW.2.2 _ _ j hi.1 e)) (vs_t (vs_t hvs))) hS hl
  rw [List.map_cons, phys_rf] at k2
  exact va_aldq hx hb hKK.1.1 hW.1 i 3 he rfl (inRb_vp hi.2.2) hdg k2
theorem J_aald8 {C : JC} {x : Bool} {cc : ByteArray} {nL : Nat} {rm : Room} {rt : Option FieldType} {own : String} {res : Res} {ce sl : Nat} {M : Mem} {pc : Nat} {lv : List (Nat × Value)} {st : List Value} {β : Type} {r0 : β} {f : Option Nat → Option β} {a : Option Nat} {z : Int32} (hC : Ok C x cc nL rm rt own res) (hdg : decode cc pc = .ok (.aaload, 1)) (h : (aR 8 M a z).bind f = some r0)
    (kk : ∀ v, aR 8 M a z = some v → f v = some r0 → J C ce sl M (pc + 1) lv (va_rf v :: st)) : J C ce sl M pc lv (.int z :: va_rf a :: st) := by
  obtain ⟨v, hv, hf⟩ := bnd h
  have kk := kk v hv hf
  obtain ⟨i, rfl, hv2⟩ := bnd hv
  split at hv2
  case isFalse => cases hv2
  case isTrue hi =>
  cases hv2
  obtain ⟨p, l, e, R, s, m, args, below, meth, c, H0, A, Q, nL0, G, ad0, n0⟩ := C
  obtain ⟨hx, hb, hml, hnl, hown, hts, hKK, hH0, hA, hlk, hrt, hR, hQ, hxt⟩ := hC
  intro ad H locs ls hW hAa hag hn hvl hvs hS hl
  have he := pool_at (G := G) (ad := ad) hi.1
  rw [ent_8 hi.2.1] at he
  have k2 := kk ad H locs ls hW hAa hag hn hvl (vs_c (Vok_rf (fun j e => hW.2.2 _ _ j hi.1 e)) (vs_t (vs_t hvs))) hS hl
  rw [List.map_cons, phys_rf] at k2
  exact va_aldq hx hb hKK.1.1 hW.1 i 4 he rfl (inRb_vp hi.2.2) hdg k2
theorem va_aldA {p : Program} {l : Launch} {e : Env} {R : Room} {s : State} {m : MethodId} {args : Array Value} {below : List Frame} {meth : Method} {c : Code} {H : Heap} {locs : List Loc} {cells slots : Nat} {Q : State → Prop} {cc : ByteArray} {pc : Nat} {ls : Array Slot} {rest : List Value} {D : va_G} {cl : List vw_C} {a : Nat} {tys : List (ClassId × FieldType)} {ws : va_W} (hexec : p.tables.exec = Jvm.exec) (hb : c.code = cc) (hK : va_K D cl tys s) (hP : va_P D cl ws H) (q0 t0 : Nat) {cA : ClassId} {ty : FieldType} {n : Nat} {f : Nat → Option Nat} (ha : ws[q0]? = some (a, .inl (cA, n, .inr (.inr (.inr (.inr f)))))) (ht : tys[t0]? = some (cA, .array ty)) {i : Int32} (hin : vp_in i n) (hdg : decode cc pc = .ok (.aaload, 1))
    (kk : W p l e R s m args below meth c H locs cells slots Q (F0 m (pc + 1) ls (va_rf (f i.toNatClampNeg) :: rest))) : W p l e R s m args below meth c H locs cells slots Q (F0 m pc ls (.int i :: .ref a :: rest)) := by
  have hlt : i.toNatClampNeg < n := Nat.not_le.mp fun q => hin (Or.inr q)
  exact W.aald (v := va_rf (f i.toNatClampNeg)) (ty := .array ty) hexec hb (hP q0 _ ha) ((hK.2 t0 _ ht).1 n (fun j => va_rf (f j))) rfl (fun q => by cases q) (by show ¬ (i < 0 ∨ (arrV _ _ _).slots.size ≤ _); rw [arrV_size]; exact hin) (by show (arrV _ _ _).slots[_]? = _; rw [arrV_read _ _ hlt]) rfl rfl hdg kk
theorem J_aald9 {C : JC} {x : Bool} {cc : ByteArray} {nL : Nat} {rm : Room} {rt : Option FieldType} {own : String} {res : Res} {ce sl : Nat} {M : Mem} {pc : Nat} {lv : List (Nat × Value)} {st : List Value} {β : Type} {r0 : β} {f : Option Nat → Option β} {a : Option Nat} {z : Int32} (hC : Ok C x cc nL rm rt own res) (hdg : decode cc pc = .ok (.aaload, 1)) (h : (aR 9 M a z).bind f = some r0)
    (kk : ∀ v, aR 9 M a z = some v → f v = some r0 → J C ce sl M (pc + 1) lv (va_rf v :: st)) : J C ce sl M pc lv (.int z :: va_rf a :: st) := by
  obtain ⟨v, hv, hf⟩ := bnd h
  have kk := kk v hv hf
  obtain ⟨i, rfl, hv2⟩ := bnd hv
  split at hv2
  case isFalse => cases hv2
  case isTrue hi =>
  cases hv2
  obtain ⟨p, l, e, R, s, m, args, below, meth, c, H0, A, Q, nL0, G, ad0, n0⟩ := C
  obtain ⟨hx, hb, hml, hnl, hown, hts, hKK, hH0, hA, hlk, hrt, hR, hQ, hxt⟩ := hC
  intro ad H locs ls hW hAa hag hn hvl hvs hS hl
  have he := pool_at (G := G) (ad := ad) hi.1
  rw [ent_9 hi.2.1] at he
  have k2 := kk ad H locs ls hW hAa hag hn hvl (vs_c (Vok_rf (fun j e => hW.2.2 _ _ j hi.1 e)) (vs_t (vs_t hvs))) hS hl
  rw [List.map_cons, phys_rf] at k2
  exact va_aldA hx hb hKK.1.1 hW.1 i 5 he rfl (inRb_vp hi.2.2) hdg k2
theorem J_iast {C : JC} {x : Bool} {cc : ByteArray} {nL : Nat} {rm : Room} {rt : Option FieldType} {own : String} {res : Res} {ce sl : Nat} {M : Mem} {pc : Nat} {lv : List (Nat × Value)} {st : List Value} {β : Type} {r0 : β} {f : Mem → Option β} {a : Option Nat} {z : Int32} {v : Int32} (hC : Ok C x cc nL rm rt own res) (hdg : decode cc pc = .ok (.iastore, 1)) (h : (wI M a z v).bind f = some r0)
    (kk : ∀ M', wI M a z v = some M' → f M' = some r0 → J C ce sl M' (pc + 1) lv st) : J C ce sl M pc lv (.int v :: .int z :: va_rf a :: st) := by
  obtain ⟨M', hv, hf⟩ := bnd h
  have kk := kk M' hv hf
  obtain ⟨i, rfl, hv2⟩ := bnd hv
  split at hv2
  case isFalse => cases hv2
  case isTrue hi =>
  cases hv2
  obtain ⟨p, l, e, R, s, m, args, below, meth, c, H0, A, Q, nL0, G, ad0, n0⟩ := C
  obtain ⟨hx, hb, hml, hnl, hown, hts, hKK, hH0, hA, hlk, hrt, hR, hQ, hxt⟩ := hC
  intro ad H locs ls hW hAa hag hn hvl hvs hS hl
  have he := pool_at (G := G) (ad := ad) hi.1
  rw [ent_4 hi.2.1] at he
  have hD := pool_D hW hAa
  skip
  have e2 : (pool G ad M).set i (ad i, .inl (G.2 0, ln i, .inl (upd (mI M i) z.toNatClampNeg v))) = pool G ad (sI M i z.toNatClampNeg v) := pool_set rfl hi.1 (by rw [ent_4 hi.2.1]; rw [show mI (sI M i z.toNatClampNeg v) i = upd (mI M i) z.toNatClampNeg v from (funext fun q => by simp [sI, mI, mJ, mR, mD, up2, upd, vp_updL, vf_upd])]) (fun j hj => ent_sI_ne hj)
  exact va_iast hx hb hKK.1.1 hW.1 hD hS i 0 he rfl (inRb_vp hi.2.2) hdg (fun H1 locs1 hP1 hD1 hS1 => kk ad H1 locs1 ls ⟨by rw [← e2]; exact hP1, hW.2⟩ hAa hag hn hvl (vs_t (vs_t (vs_t hvs))) hS1 hl)
theorem J_last {C : JC} {x : Bool} {cc : ByteArray} {nL : Nat} {rm : Room} {rt : Option FieldType} {own : String} {res : Res} {ce sl : Nat} {M : Mem} {pc : Nat} {lv : List (Nat × Value)} {st : List Value} {β : Type} {r0 : β} {f : Mem → Option β} {a : Option Nat} {z : Int32} {v : Int64} (hC : Ok C x cc nL rm rt own res) (hdg : decode cc pc = .ok (.lastore, 1)) (h : (wJ M a z v).bind f = some r0)
    (kk : ∀ M', wJ M a z v = some M' → f M' = some r0 → J C ce sl M' (pc + 1) lv st) : J C ce sl M pc lv (.long v :: .int z :: va_rf a :: st) := by
  obtain ⟨M', hv, hf⟩ := bnd h
  have kk := kk M' hv hf
  obtain ⟨i, rfl, hv2⟩ := bnd hv
  split at hv2
  case isFalse => cases hv2
  case isTrue hi =>
  cases hv2
  obtain ⟨p, l, e, R, s, m, args, below, meth, c, H0, A, Q, nL0, G, ad0, n0⟩ := C
  obtain ⟨hx, hb, hml, hnl, hown, hts, hKK, hH0, hA, hlk, hrt, hR, hQ, hxt⟩ := hC
  intro ad H locs ls hW hAa hag hn hvl hvs hS hl
  have he := pool_at (G := G) (ad := ad) hi.1
  rw [ent_5 hi.2.1] at he
  have hD := pool_D hW hAa
  skip
  have e2 : (pool G ad M).set i (ad i, .inl (G.2 1, ln i, .inr (.inl (vp_updL (mJ M i) z.toNatClampNeg v)))) = pool G ad (sJ M i z.toNatClampNeg v) := pool_set rfl hi.1 (by rw [ent_5 hi.2.1]; rw [show mJ (sJ M i z.toNatClampNeg v) i = vp_updL (mJ M i) z.toNatClampNeg v from (funext fun q => by simp [sJ, mI, mJ, mR, mD, up2, upd, vp_updL, vf_upd])]) (fun j hj => ent_sJ_ne hj)
  exact va_last hx hb hKK.1.1 hW.1 hD hS i 1 he rfl (inRb_vp hi.2.2) hdg (fun H1 locs1 hP1 hD1 hS1 => kk ad H1 locs1 ls ⟨by rw [← e2]; exact hP1, hW.2⟩ hAa hag hn hvl (vs_t (vs_t (vs_t hvs))) hS1 hl)
theorem J_dast {C : JC} {x : Bool} {cc : ByteArray} {nL : Nat} {rm : Room} {rt : Option FieldType} {own : String} {res : Res} {ce sl : Nat} {M : Mem} {pc : Nat} {lv : List (Nat × Value)} {st : List Value} {β : Type} {r0 : β} {f : Mem → Option β} {a : Option Nat} {z : Int32} {v : UInt64} (hC : Ok C x cc nL rm rt own res) (hdg : decode cc pc = .ok (.dastore, 1)) (h : (wD M a z v).bind f = some r0)
    (kk : ∀ M', wD M a z v = some M' → f M' = some r0 → J C ce sl M' (pc + 1) lv st) : J C ce sl M pc lv (.double v :: .int z :: va_rf a :: st) := by
  obtain ⟨M', hv, hf⟩ := bnd h
  have kk := kk M' hv hf
  obtain ⟨i, rfl, hv2⟩ := bnd hv
  split at hv2
  case isFalse => cases hv2
  case isTrue hi =>
  cases hv2
  obtain ⟨p, l, e, R, s, m, args, below, meth, c, H0, A, Q, nL0, G, ad0, n0⟩ := C
  obtain ⟨hx, hb, hml, hnl, hown, hts, hKK, hH0, hA, hlk, hrt, hR, hQ, hxt⟩ := hC
  intro ad H locs ls hW hAa hag hn hvl hvs hS hl
  have he := pool_at (G := G) (ad := ad) hi.1
  rw [ent_10 hi.2.1] at he
  have hD := pool_D hW hAa
  skip
  have e2 : (pool G ad M).set i (ad i, .inl (G.2 6, ln i, .inr (.inr (.inr (.inl (vf_upd (mD M i) z.toNatClampNeg v)))))) = pool G ad (sD M i z.toNatClampNeg v) := pool_set rfl hi.1 (by rw [ent_10 hi.2.1]; rw [show mD (sD M i z.toNatClampNeg v) i = vf_upd (mD M i) z.toNatClampNeg v from (funext fun q => by simp [sD, mI, mJ, mR, mD, up2, upd, vp_updL, vf_upd])]) (fun j hj => ent_sD_ne hj)
  exact va_dast hx hb hKK.1.1 hW.1 hD hS i 6 he rfl (inRb_vp hi.2.2) hdg (fun H1 locs1 hP1 hD1 hS1 => kk ad H1 locs1 ls ⟨by rw [← e2]; exact hP1, hW.2⟩ hAa hag hn hvl (vs_t (vs_t (vs_t hvs))) hS1 hl)
theorem J_zast {C : JC} {x : Bool} {cc : ByteArray} {nL : Nat} {rm : Room} {rt : Option FieldType} {own : String} {res : Res} {ce sl : Nat} {M : Mem} {pc : Nat} {lv : List (Nat × Value)} {st : List Value} {β : Type} {r0 : β} {f : Mem → Option β} {a : Option Nat} {z : Int32} {v : Int32} (hC : Ok C x cc nL rm rt own res) (hdg : decode cc pc = .ok (.bastore, 1)) (h : (wZ M a z v).bind f = some r0)
    (kk : ∀ M', wZ M a z v = some M' → f M' = some r0 → J C ce sl M' (pc + 1) lv st) : J C ce sl M pc lv (.int v :: .int z :: va_rf a :: st) := by
  obtain ⟨M', hv, hf⟩ := bnd h
  have kk := kk M' hv hf
  obtain ⟨i, rfl, hv2⟩ := bnd hv
  split at hv2
  case isFalse => cases hv2
  case isTrue hi =>
  cases hv2
  obtain ⟨p, l, e, R, s, m, args, below, meth, c, H0, A, Q, nL0, G, ad0, n0⟩ := C
  obtain ⟨hx, hb, hml, hnl, hown, hts, hKK, hH0, hA, hlk, hrt, hR, hQ, hxt⟩ := hC
  intro ad H locs ls hW hAa hag hn hvl hvs hS hl
  have he := pool_at (G := G) (ad := ad) hi.1
  rw [ent_6 hi.2.1] at he
  have hD := pool_D hW hAa
  have hn1 : vp_nar .boolean v = v := by rw [hi.2.2.2]; decide
  have e2 : (pool G ad M).set i (ad i, .inl (G.2 2, ln i, .inl (upd (mI M i) z.toNatClampNeg (vp_nar .boolean v)))) = pool G ad (sI M i z.toNatClampNeg v) := pool_set rfl hi.1 (by rw [ent_6 hi.2.1]; rw [show mI (sI M i z.toNatClampNeg v) i = upd (mI M i) z.toNatClampNeg (vp_nar .boolean v) from (funext fun q => by simp [hn1, sI, mI, mJ, mR, mD, up2, upd, vp_updL, vf_upd])]) (fun j hj => ent_sI_ne hj)
  exact va_zast hx hb hKK.1.1 hW.1 hD hS i 2 he rfl (inRb_vp hi.2.2.1) hdg (fun H1 locs1 hP1 hD1 hS1 => kk ad H1 locs1 ls ⟨by rw [← e2]; exact hP1, hW.2⟩ hAa hag hn hvl (vs_t (vs_t (vs_t hvs))) hS1 hl)
theorem J_aast7 {C : JC} {x : Bool} {cc : ByteArray} {nL : Nat} {rm : Room} {rt : Option FieldType} {own : String} {res : Res} {ce sl : Nat} {M : Mem} {pc : Nat} {lv : List (Nat × Value)} {st : List Value} {β : Type} {r0 : β} {f : Mem → Option β} {a v : Option Nat} {z : Int32} (hC : Ok C x cc nL rm rt own res) (hdg : decode cc pc = .ok (.aastore, 1)) (h : (wR 7 0 M a z v).bind f = some r0)
    (kk : ∀ M', wR 7 0 M a z v = some M' → f M' = some r0 → J C ce sl M' (pc + 1) lv st) : J C ce sl M pc lv (va_rf v :: .int z :: va_rf a :: st) := by
  obtain ⟨M', hv, hf⟩ := bnd h
  have kk := kk M' hv hf
  obtain ⟨i, rfl, hv2⟩ := bnd hv
  obtain ⟨j, rfl, hv3⟩ := bnd hv2
  split at hv3
  case isFalse => cases hv3
  case isTrue hi =>
  cases hv3
  obtain ⟨p, l, e, R, s, m, args, below, meth, c, H0, A, Q, nL0, G, ad0, n0⟩ := C
  obtain ⟨hx, hb, hml, hnl, hown, hts, hKK, hH0, hA, hlk, hrt, hR, hQ, hxt⟩ := hC
  intro ad H locs ls hW hAa hag hn hvl hvs hS hl
  have he := pool_at (G := G) (ad := ad) hi.1
  rw [ent_7 hi.2.1] at he
  have hej := pool_at (G := G) (ad := ad) hi.2.2.2.1
  rw [ent_0 hi.2.2.2.2] at hej
  have hD := pool_D hW hAa
  have e2 : (pool G ad M).set i (ad i, .inl (G.2 3, ln i, .inr (.inr (.inr (.inr (va_up (fun k => (mR M i k).map ad) z.toNatClampNeg (some (ad j)))))))) = pool G ad (sR M i z.toNatClampNeg (some j)) := pool_set rfl hi.1 (by rw [ent_7 hi.2.1]; congr 7; funext q; by_cases hq : q = z.toNatClampNeg <;> simp [sR, mR, up2, va_up, hq]) (fun j hj => ent_sR_ne hj)
  exact va_astq (r := (RX0, TX0, 6)) hx hb hKK.1.1 hW.1 hD hS i 3 j 0 he rfl hej rfl (inRb_vp hi.2.2.1) hdg (fun H1 locs1 hP1 hD1 hS1 => kk ad H1 locs1 ls ⟨by rw [← e2]; exact hP1, hW.2.1, wf_sR hW.2.2 (vs_h hvs)⟩ hAa hag hn hvl (vs_t (vs_t (vs_t hvs))) hS1 hl)
theorem J_aast8 {C : JC} {x : Bool} {cc : ByteArray} {nL : Nat} {rm : Room} {rt : Option FieldType} {own : String} {res : Res} {ce sl : Nat} {M : Mem} {pc : Nat} {lv : List (Nat × Value)} {st : List Value} {β : Type} {r0 : β} {f : Mem → Option β} {a v : Option Nat} {z : Int32} (hC : Ok C x cc nL rm rt own res) (hdg : decode cc pc = .ok (.aastore, 1)) (h : (wR 8 1 M a z v).bind f = some r0)
    (kk : ∀ M', wR 8 1 M a z v = some M' → f M' = some r0 → J C ce sl M' (pc + 1) lv st) : J C ce sl M pc lv (va_rf v :: .int z :: va_rf a :: st) := by
  obtain ⟨M', hv, hf⟩ := bnd h
  have kk := kk M' hv hf
  obtain ⟨i, rfl, hv2⟩ := bnd hv
  obtain ⟨j, rfl, hv3⟩ := bnd hv2
  split at hv3
  case isFalse => cases hv3
  case isTrue hi =>
  cases hv3
  obtain ⟨p, l, e, R, s, m, args, below, meth, c, H0, A, Q, nL0, G, ad0, n0⟩ := C
  obtain ⟨hx, hb, hml, hnl, hown, hts, hKK, hH0, hA, hlk, hrt, hR, hQ, hxt⟩ := hC
  intro ad H locs ls hW hAa hag hn hvl hvs hS hl
  have he := pool_at (G := G) (ad := ad) hi.1
  rw [ent_8 hi.2.1] at he
  have hej := pool_at (G := G) (ad := ad) hi.2.2.2.1
  rw [ent_1 hi.2.2.2.2] at hej
  have hD := pool_D hW hAa
  have e2 : (pool G ad M).set i (ad i, .inl (G.2 4, ln i, .inr (.inr (.inr (.inr (va_up (fun k => (mR M i k).map ad) z.toNatClampNeg (some (ad j)))))))) = pool G ad (sR M i z.toNatClampNeg (some j)) := pool_set rfl hi.1 (by rw [ent_8 hi.2.1]; congr 7; funext q; by_cases hq : q = z.toNatClampNeg <;> simp [sR, mR, up2, va_up, hq]) (fun j hj => ent_sR_ne hj)
  exact va_astq (r := (RX1, TX1, 5)) hx hb hKK.1.1 hW.1 hD hS i 4 j 1 he rfl hej rfl (inRb_vp hi.2.2.1) hdg (fun H1 locs1 hP1 hD1 hS1 => kk ad H1 locs1 ls ⟨by rw [← e2]; exact hP1, hW.2.1, wf_sR hW.2.2 (vs_h hvs)⟩ hAa hag hn hvl (vs_t (vs_t (vs_t hvs))) hS1 hl)
theorem J_copyi {C : JC} {x : Bool} {cc : ByteArray} {nL : Nat} {rm : Room} {rt : Option FieldType} {own : String} {res : Res} {ce sl : Nat} {M : Mem} {pc : Nat} {lv : List (Nat × Value)} {st : List Value} {β : Type} {r0 : β} {f : Mem → Option β} {index : Nat} {a b : Option Nat} {sp dp n : Int32} (hC : Ok C x cc nL rm rt own res) (hw : Cond.methodLink own index arraycopyName ∈ BIG) (hcat : (st.map fun v => v.category).sum ≤ 8) (hfr : 1 ≤ rm.frames) (hlo : 8 + (nativeFrameWords "java/lang/System" "arraycopy" 5 + 11) ≤ rm.locals) (hdg : decode cc pc = .ok (.invokestatic index, 3)) (h : (cpI M a sp b dp n).bind f = some r0)
    (kk : ∀ M', cpI M a sp b dp n = some M' → f M' = some r0 → J C ce sl M' (pc + 3) lv st) : J C ce sl M pc lv (.int n :: .int dp :: va_rf b :: .int sp :: va_rf a :: st) := by
  obtain ⟨M', hv, hf⟩ := bnd h
  have kk := kk M' hv hf
  obtain ⟨i, rfl, hv2⟩ := bnd hv
  obtain ⟨j, rfl, hv3⟩ := bnd hv2
  split at hv3
  case isFalse => cases hv3
  case isTrue hi =>
  cases hv3
  obtain ⟨p, l, e, R, s, m, args, below, meth, c, H0, A, Q, nL0, G, ad0, n0⟩ := C
  obtain ⟨hx, hb, hml, hnl, hown, hts, hKK, hH0, hA, hlk, hrt, hR, hQ, hxt⟩ := hC
  intro ad H locs ls hW hAa hag hn hvl hvs hS hl
  obtain ⟨⟨i1, i2, i3, i4⟩, ⟨s1, s2, s3⟩, g1, g2⟩ := hi
  have he := pool_at (G := G) (ad := ad) i1
  rw [ent_4 i2] at he
  have hej := pool_at (G := G) (ad := ad) i3
  rw [ent_4 i4] at hej
  have hD := pool_D hW hAa
  subst hR
  have hcat2 : ((st.map (phys ad)).map fun v => v.category).sum ≤ 8 := by rw [List.map_map, show ((fun v : Value => v.category) ∘ phys ad) = (fun v => v.category) from funext (cat_phys ad)]; exact hcat
  have e2 : (pool G ad M).set j (ad j, .inl (G.2 0, ln j, .inl (va_cpy (mI M i) (mI M j) sp.toNatClampNeg dp.toNatClampNeg n.toNatClampNeg))) = pool G ad (sRow M j (va_cpy (mI M i) (mI M j) sp.toNatClampNeg dp.toNatClampNeg n.toNatClampNeg)) := pool_set rfl i3 (by rw [ent_4 i4]; congr 4; funext q; simp [sRow, mI]) (fun j hj => ent_sRow_ne hj)
  exact va_copyi hx hb (by rw [hml, ← hnl]; exact hl.1.symm) hown (hts _ hw) (hts _ w_acn) (hts _ w_acs) (hts _ w_aci) hKK.1.1 hW.1 hD hS i j 0 0 he hej rfl rfl rfl s1 s2 s3 g1 g2 (fun _ _ => rfl) hfr (by omega) hdg (fun H1 locs1 hP1 hD1 hS1 => kk ad H1 locs1 ls ⟨by rw [← e2]; exact hP1, hW.2⟩ hAa hag hn hvl (vs_t (vs_t (vs_t (vs_t (vs_t hvs))))) hS1 hl)
theorem J_alen {C : JC} {x : Bool} {cc : ByteArray} {nL : Nat} {rm : Room} {rt : Option FieldType} {own : String} {res : Res} {ce sl : Nat} {M : Mem} {pc : Nat} {lv : List (Nat × Value)} {st : List Value} {β : Type} {r0 : β} {f : Int32 → Option β} {a : Option Nat} (hC : Ok C x cc nL rm rt own res) (hdg : decode cc pc = .ok (.arraylength, 1)) (h : (aL M a).bind f = some r0)
    (kk : ∀ v, aL M a = some v → f v = some r0 → J C ce sl M (pc + 1) lv (.int v :: st)) : J C ce sl M pc lv (va_rf a :: st) := by
  obtain ⟨v, hv, hf⟩ := bnd h
  have kk := kk v hv hf
  obtain ⟨i, rfl, hv2⟩ := bnd hv
  split at hv2
  case isFalse => cases hv2
  case isTrue hi =>
  cases hv2
  obtain ⟨p, l, e, R, s, m, args, below, meth, c, H0, A, Q, nL0, G, ad0, n0⟩ := C
  obtain ⟨hx, hb, hml, hnl, hown, hts, hKK, hH0, hA, hlk, hrt, hR, hQ, hxt⟩ := hC
  intro ad H locs ls hW hAa hag hn hvl hvs hS hl
  have he := pool_at (G := G) (ad := ad) hi.1
  have k2 := kk ad H locs ls hW hAa hag hn hvl (vs_c Vok_int (vs_t hvs)) hS hl
  rcases (show kd i = 4 ∨ kd i = 5 ∨ kd i = 6 ∨ kd i = 7 ∨ kd i = 8 ∨ kd i = 9 ∨ kd i = 10 by omega) with h9 | h9 | h9 | h9 | h9 | h9 | h9
  · rw [ent_4 h9] at he; exact va_alen hx hb hKK.1.1 hW.1 i 0 he rfl rfl hdg k2
  · rw [ent_5 h9] at he; exact va_alen hx hb hKK.1.1 hW.1 i 1 he rfl rfl hdg k2
  · rw [ent_6 h9] at he; exact va_alen hx hb hKK.1.1 hW.1 i 2 he rfl rfl hdg k2
  · rw [ent_7 h9] at he; exact va_alen hx hb hKK.1.1 hW.1 i 3 he rfl rfl hdg k2
  · rw [ent_8 h9] at he; exact va_alen hx hb hKK.1.1 hW.1 i 4 he rfl rfl hdg k2
  · rw [ent_9 h9] at he; exact va_alen hx hb hKK.1.1 hW.1 i 5 he rfl rfl hdg k2
  · rw [ent_10 h9] at he; exact va_alen hx hb hKK.1.1 hW.1 i 6 he rfl rfl hdg k2
end
section
theorem lv_args_phys (ad : Nat → Nat) (vs : List Value) : ∀ i : Nat, lv_args i (vs.map (phys ad)) = (lv_args i vs).map fun q => (q.1, phys ad q.2) := by
  induction vs with
  | nil => intro i; rfl
  | cons v vs ih => intro i; simp only [List.map_cons, lv_args, cat_phys, ih]
theorem lg_sl_len (ad : Nat → Nat) (vs : List Value) : (lg_sl (vs.map (phys ad))).length = (lg_sl vs).length := by
  induction vs with
  | nil => rfl
  | cons v vs ih =>
    simp only [List.map_cons, lg_sl, List.flatMap_cons, List.length_append, cat_phys] at ih ⊢
    rw [ih]
    split <;> rfl
theorem vl_args {n : Nat} (vs : List Value) (h : ∀ v ∈ vs, Vok n v) : ∀ i : Nat, ∀ q ∈ lv_args i vs, Vok n q.2 := by
  induction vs with
  | nil => intro i q hq; cases hq
  | cons v vs ih =>
    intro i q hq
    rcases List.mem_cons.mp hq with e | e
    · rw [e]; exact vs_h h
    · exact ih (vs_t h) _ q e
theorem Con.enter {l : Launch} (hst : l.stackTraces = false) {y : MethodName} {cc : ByteArray} {maxL : Nat} {ret : Option FieldType} {rm : Room} {As : List Value} {M : Mem} {res : Res} {own : String} (hy : plainName y.cls = true) (ho : y.cls = own) (hlen : (lg_sl As).length ≤ maxL) {lv0 : List (Nat × Value)} (hlv : lv_args 0 As = lv0)
    (k : ∀ C : JC, Ok C false cc maxL rm ret own res → (y.name = "<init>" → isInit C) → J C 0 0 M 0 lv0 []) : Con false l y cc maxL ret rm As M res := by
  intro G ad sz
  rw [if_neg (by decide)]
  refine Met.ofW (cc := cc) (maxL := maxL) (ret := ret) hy rfl ?_
  intro p e s m args below meth c s₁ B hml hv
  obtain ⟨rfl, hsz, hW, hKK, hVok⟩ := hv
  subst hsz
  have hts := atoms_spec (ws := .code y cc maxL ret :: BIG) B.pre
  have hown : s.vm.findClass y.cls = some m.cls := findClass_of_methodNamed B.named
  have hnm : meth.name = y.name := (name_of_methodNamed B.named B.method).1
  have hl := lv_entry (As.map (phys ad)) (n := maxL) (by rw [lg_sl_len]; exact hlen)
  rw [lg_entry_eq]
  generalize (lg_sl (As.map (phys ad)) ++ List.replicate (maxL - (lg_sl (As.map (phys ad))).length) Slot.unset).toArray = ls at hl ⊢
  rw [lv_args_phys, hlv] at hl
  exact k (p, l, e, (headSpec (.code y cc maxL ret :: BIG) rm).room, s, m, (As.map (phys ad)).toArray, below, meth, c, s.heap, Aset ad M.1 s.heap.size, MQ below (Qret G ad M.1 (Aset ad M.1 s.heap.size) res) (As.map (phys ad)).toArray s rm.cells rm.slots (Aset ad M.1 s.heap.size), maxL, G, ad, M.1)
    ⟨B.exec, B.bytes, hml, rfl, ho ▸ hown, fun w hw => hts w (List.mem_cons_of_mem _ hw), hKK, rfl, fun q h => Or.inr h, B.notSynchronized, B.returns, rfl, rfl, (fun h => by cases h), hst⟩ (fun h => hnm.trans h)
    ad s.heap [] ls hW (fun i hi => Or.inl ⟨i, hi, rfl⟩) (fun _ _ => rfl) (Nat.le_refl _) (hlv ▸ vl_args As hVok 0) (fun v hv => by cases hv) va_S.rf hl
theorem Con.enterX {l : Launch} (hst : l.stackTraces = false) {y : MethodName} {cc : ByteArray} {maxL : Nat} {ret : Option FieldType} {rm : Room} {As : List Value} {M : Mem} {res : Res} {own : String} (hy : plainName y.cls = true) (ho : y.cls = own) (hlen : (lg_sl As).length ≤ maxL) {lv0 : List (Nat × Value)} (hlv : lv_args 0 As = lv0)
    (k : ∀ C : JC, Ok C true cc maxL rm ret own res → J C 0 0 M 0 lv0 []) : Con true l y cc maxL ret rm As M res := by
  intro G ad sz
  rw [if_pos rfl]
  refine vx_ofW (cc := cc) (maxL := maxL) (ret := ret) hy rfl ?_
  intro p e s m args below meth c s₁ B hml hex hv
  obtain ⟨rfl, hsz, hW, hKK, hVok⟩ := hv
  subst hsz
  have hts := atoms_spec (ws := .code y cc maxL ret :: BIG) B.pre
  have hown : s.vm.findClass y.cls = some m.cls := findClass_of_methodNamed B.named
  have hl := lv_entry (As.map (phys ad)) (n := maxL) (by rw [lg_sl_len]; exact hlen)
  rw [lg_entry_eq]
  generalize (lg_sl (As.map (phys ad)) ++ List.replicate (maxL - (lg_sl (As.map (phys ad))).length) Slot.unset).toArray = ls at hl ⊢
  rw [lv_args_phys, hlv] at hl
  exact k (p, l, e, (headSpec (.code y cc maxL ret :: BIG) rm).room, s, m, (As.map (phys ad)).toArray, below, meth, c, s.heap, Aset ad M.1 s.heap.size, vx_MQ below (Qret G ad M.1 (Aset ad M.1 s.heap.size) res) (Qthr G ad M.1 (Aset ad M.1 s.heap.size) res) (As.map (phys ad)).toArray s rm.cells rm.slots (Aset ad M.1 s.heap.size), maxL, G, ad, M.1)
    ⟨B.exec, B.bytes, hml, rfl, ho ▸ hown, fun w hw => hts w (List.mem_cons_of_mem _ hw), hKK, rfl, fun q h => Or.inr h, B.notSynchronized, B.returns, rfl, rfl, (fun _ => hex), hst⟩
    ad s.heap [] ls hW (fun i hi => Or.inl ⟨i, hi, rfl⟩) (fun _ _ => rfl) (Nat.le_refl _) (hlv ▸ vl_args As hVok 0) (fun v hv => by cases hv) va_S.rf hl
theorem w_oi1 : Cond.instanceMethod objectInit ∈ BIG := by decide +kernel
theorem w_oi2 : Cond.code objectInit ⟨#[0xb1]⟩ 1 none ∈ BIG := by decide +kernel
/-! ===== calls ===== -/
section WCALL
variable {p : Program} {l : Launch} {e : Env} {R : Room} {s : State} {m : MethodId} {args : Array Value} {below : List Frame} {meth : Method} {c : Code} {H : Heap} {locs : List Loc} {cells slots : Nat} {Q : State → Prop} {pc : Nat} {ls : Array Slot}
theorem Aset_sub {A : Nat → Prop} {H0 H : Heap} {ad : Nat → Nat} {n : Nat} (hAa : ∀ i, i < n → A (ad i)) (hA : ∀ q, H0.size ≤ q → A q) (hz : H0.size ≤ H.size) : ∀ q, Aset ad n H.size q → A q := fun q h => h.elim (fun ⟨i, hi, e⟩ => e ▸ hAa i hi) (fun h => hA q (Nat.le_trans hz h))
theorem W_call {G : Geo} {ad : Nat → Nat} {M M' : Mem} {rv : Option Value} {A : Nat → Prop} {H0 : Heap} {mc ms : Nat} {a : Array Value} {st0 rest : List Value}
    (hr : va_Run p l e R s m args below meth c H locs cells slots mc ms (F0 m pc ls st0) rest (Qret G ad M.1 (Aset ad M.1 H.size) (M', .inr rv) a) (Aset ad M.1 H.size))
    (hAa : ∀ i, i < M.1 → A (ad i)) (hA : ∀ q, H0.size ≤ q → A q) (hS : va_S A H0 H locs)
    (kk : ∀ (ad' : Nat → Nat) (H1 : Heap) (locs1 : List Loc), (∀ i, i < M.1 → ad' i = ad i) → M.1 ≤ M'.1 → Wd G ad' M' H1 → (∀ i, i < M'.1 → A (ad' i)) → (∀ v, rv = some v → Vok M'.1 v) → va_S A H0 H1 locs1 → W p l e R s m args below meth c H1 locs1 (cells + mc) (slots + ms) Q (F0 m (pc + 3) ls ((rv.map (phys ad')).toList ++ rest))) : W p l e R s m args below meth c H locs cells slots Q (F0 m pc ls st0) := by
  intro T hT X
  obtain ⟨v, st₀, t, T', L, h0, X', hL, e1, e2, ⟨⟨ad', rv', q1, q2, q3, q4, q5, q6, q7⟩, hz, hk⟩, stp⟩ := hr T hT X
  cases q1
  cases q2
  rw [h0] at hz hk
  have hsub := Aset_sub hAa hA hS.1
  obtain ⟨t2, a1, b1⟩ := kk ad' T'.heap (locs ++ L) q3 q4 (by rw [e1]; exact q5) (fun i hi => hsub _ (q6 i hi)) q7
    ⟨Nat.le_trans hS.1 (by rw [e1]; exact hz), fun q h1 h2 => by rw [e1, hk q (Nat.lt_of_lt_of_le h1 hS.1) (fun z => h2 (hsub q z))]; exact hS.2.1 q h1 h2, fun q hq => by
      rcases List.mem_append.mp hq with h | h
      · exact hS.2.2 q h
      · exact hsub _ (hL q h)⟩ T' rfl X'
  exact ⟨t2, stp t2 a1, b1⟩
theorem run_of_x {Qa : State → Outcome → State → Prop} {G : Geo} {ad0 : Nat → Nat} {n0 : Nat} {A : Nat → Prop} {M' : Mem} {rv : Option Value} {free : Nat → Prop} {g : JFrame} {rest : List Value} {mc ms : Nat} (h : vx_Run p l e R s m args below meth c H locs cells slots mc ms g rest Qa (Qthr G ad0 n0 A (M', .inr rv)) free) : va_Run p l e R s m args below meth c H locs cells slots mc ms g rest Qa free := by
  intro T hT X
  rcases h T hT X with h1 | ⟨q, st₀, t, T', L, E, ce, h0, X', hL, e1, e2, hx, -⟩
  · exact h1
  · obtain ⟨⟨ad, h1, -⟩, -⟩ := hx
    cases h1
end WCALL
/-- how a state keeps its contract's precondition, for a callee -/
theorem PreC_of {G : Geo} {ad : Nat → Nat} {M : Mem} {A : Nat → Prop} {s : State} {H : Heap} {locs : List Loc} {As : List Value} (hW : Wd G ad M H) (hAa : ∀ i, i < M.1 → A (ad i)) (hA : ∀ q, s.heap.size ≤ q → A q) (hKK : KK G A s s.heap) (hS : va_S A s.heap H locs) (hv : ∀ v ∈ As, Vok M.1 v) : ∀ U : State, U.heap = H → s.WarmedH U.vm → PreC G ad H.size As M (As.map (phys ad)).toArray U := fun U hU hWm =>
  ⟨rfl, by rw [hU], by rw [hU]; exact hW, by rw [hU]; exact KK.warm hWm ((hKK.kept (H1 := H) (fun q h1 h2 => hS.2.1 q h1 h2)).narrow (Aset_sub hAa hA hS.1)), hv⟩
theorem PreC_blind {G : Geo} {ad : Nat → Nat} {sz : Nat} {As : List Value} {M : Mem} : FrameBlind (PreC G ad sz As M) := fun a U g mk q => by
  obtain ⟨q0, q1, q2, q3, q4⟩ := q
  exact ⟨q0, q1, q2, KK.warm (U := U.calling g mk a) (State.WarmedH.refl U) q3, q4⟩
/-- a method's words, all in the great list -/
def VMok (y : MethodName) (C : String) (cc : ByteArray) (maxL : Nat) (ret : Option FieldType) (n : Nat) : Prop := Cond.code y cc maxL ret ∈ BIG ∧ Cond.instanceMethod y ∈ BIG ∧ Cond.selects C y y ∈ BIG ∧ Cond.initialized C ∈ BIG ∧ (y.cls = C ∧ y.cls ≠ "java/lang/invoke/MethodHandle" ∧ y.cls ≠ "java/lang/invoke/VarHandle" ∧ (parseMethodDescriptor y.desc).map (fun d => d.parameters.length) = some n)
def SMok (y : MethodName) (cc : ByteArray) (maxL : Nat) (ret : Option FieldType) (n : Nat) : Prop := Cond.code y cc maxL ret ∈ BIG ∧ Cond.static y ∈ BIG ∧ Cond.initialized y.cls ∈ BIG ∧ (y.cls ≠ "java/lang/invoke/MethodHandle" ∧ y.cls ≠ "java/lang/invoke/VarHandle" ∧ (parseMethodDescriptor y.desc).map (fun d => d.parameters.length) = some n)
def IMok (y : MethodName) (cc : ByteArray) (maxL : Nat) (n : Nat) : Prop := Cond.code y cc maxL none ∈ BIG ∧ Cond.instanceMethod y ∈ BIG ∧ Cond.initialized y.cls ∈ BIG ∧ y.name = "<init>" ∧ (y.cls ≠ "java/lang/invoke/MethodHandle" ∧ y.cls ≠ "java/lang/invoke/VarHandle" ∧ (parseMethodDescriptor y.desc).map (fun d => d.parameters.length) = some n)
def ck (ci : Nat) (M : Mem) (o : Option Nat) : Option Unit := o.bind fun i => if i < M.1 ∧ kd i = ci then some () else none
theorem ck_s {ci : Nat} {M : Mem} {o : Option Nat} {u : Unit} (h : ck ci M o = some u) : ∃ i, o = some i ∧ i < M.1 ∧ kd i = ci := by
  obtain ⟨i, rfl, h2⟩ := bnd h
  split at h2
  case isTrue hi => exact ⟨i, rfl, hi⟩
  case isFalse => cases h2
theorem cat_map (ad : Nat → Nat) (st : List Value) : ((st.map (phys ad)).map fun v => v.category).sum = (st.map fun v => v.category).sum := by
  rw [List.map_map, show ((fun v : Value => v.category) ∘ phys ad) = (fun v => v.category) from funext (cat_phys ad)]
theorem vs_arr {n : Nat} {As st : List Value} (h : ∀ v ∈ As.reverse ++ st, Vok n v) : (∀ v ∈ As, Vok n v) ∧ ∀ v ∈ st, Vok n v := ⟨fun v hv => h v (List.mem_append_left _ (List.mem_reverse.mpr hv)), fun v hv => h v (List.mem_append_right _ hv)⟩
theorem vs_ret {n : Nat} {rv : Option Value} {st : List Value} (h : ∀ v, rv = some v → Vok n v) (hs : ∀ v ∈ st, Vok n v) : ∀ v ∈ rv.toList ++ st, Vok n v := fun v hv => by
  rcases List.mem_append.mp hv with h1 | h1
  · exact h v (Option.mem_toList.mp h1)
  · exact hs v h1
theorem Vok_mono {n m : Nat} (h : n ≤ m) {v : Value} (hv : Vok n v) : Vok m v := fun i e => Nat.lt_of_lt_of_le (hv i e) h
theorem phys_ag {n : Nat} {ad ad' : Nat → Nat} (h : ∀ i, i < n → ad' i = ad i) {v : Value} (hv : Vok n v) : phys ad' v = phys ad v := by
  cases v <;> try rfl
  case ref i => exact congrArg Value.ref (h i (hv i rfl))
theorem map_ag {n : Nat} {ad ad' : Nat → Nat} (h : ∀ i, i < n → ad' i = ad i) {st : List Value} (hs : ∀ v ∈ st, Vok n v) : st.map (phys ad') = st.map (phys ad) := List.map_congr_left fun v hv => phys_ag h (hs v hv)
theorem mapl_ag {n : Nat} {ad ad' : Nat → Nat} (h : ∀ i, i < n → ad' i = ad i) {lv : List (Nat × Value)} (hs : ∀ q ∈ lv, Vok n q.2) : (lv.map fun q => (q.1, phys ad' q.2)) = lv.map fun q => (q.1, phys ad q.2) := List.map_congr_left fun q hq => by rw [phys_ag h (hs q hq)]
theorem ret_map (ad : Nat → Nat) (rv : Option Value) (st : List Value) : (rv.map (phys ad)).toList ++ st.map (phys ad) = (rv.toList ++ st).map (phys ad) := by cases rv <;> rfl
theorem rcv_of9 {G : Geo} {ad : Nat → Nat} {M : Mem} {H : Heap} {A : Nat → Prop} {s : State} {Hk : Heap} (hW : Wd G ad M H) (hKK : KK G A s Hk) {ci i : Nat} {q : vw_C} (hi : i < M.1) (hk : kd i = ci) (hc : vwCl[ci]? = some q) : ∃ cell : Cell, H[ad i]? = some cell ∧ cell.vm.isStatics = false ∧ s.vm.findClass q.1 = some cell.cls := by
  have he := pool_at (G := G) (ad := ad) hi
  have h4 : ci < 4 := (List.getElem?_eq_some_iff.mp hc).1
  rcases (show ci = 0 ∨ ci = 1 ∨ ci = 2 ∨ ci = 3 by omega) with rfl | rfl | rfl | rfl
  · rw [ent_0 hk] at he; exact va_recv hKK.1.1 hW.1 hc he
  · rw [ent_1 hk] at he; exact va_recv hKK.1.1 hW.1 hc he
  · rw [ent_2 hk] at he; exact va_recv hKK.1.1 hW.1 hc he
  · rw [ent_3 hk] at he; exact va_recv hKK.1.1 hW.1 hc he
theorem J_callV {C : JC} {x : Bool} {cc : ByteArray} {nL : Nat} {rm : Room} {rt : Option FieldType} {own : String} {res : Res} {ce sl : Nat} {M : Mem} {pc : Nat} {lv : List (Nat × Value)} {st : List Value} {y : MethodName} {cc2 : ByteArray} {maxL2 index : Nat} {ret2 : Option FieldType} {rm2 : Room} {As : List Value} {M' : Mem} {rv : Option Value} {stk : List Value} {n : Nat} {Cn : String} {o : Option Nat} {ci : Nat} {qc : vw_C} (hC : Ok C x cc nL rm rt own res) (hcon : ∀ l, l.stackTraces = false → Con false l y cc2 maxL2 ret2 rm2 (va_rf o :: As) M (M', .inr rv)) (hm : VMok y Cn cc2 maxL2 ret2 n) (hw : Cond.methodLink own index y ∈ BIG) (ho : ∃ i, o = some i ∧ i < M.1 ∧ kd i = ci) (hq : vwCl[ci]? = some qc ∧ qc.1 = Cn) (hn9 : As.length = n) (hf : rm2.frames + 1 ≤ rm.frames ∧ 8 + (maxL2 + 11) + rm2.locals ≤ rm.locals) (hcat : (st.map fun v => v.category).sum ≤ 8) (hce : ce + rm2.cells ≤ rm.cells ∧ sl + rm2.slots ≤ rm.slots)
    (hdg : decode cc pc = .ok (.invokevirtual index, 3)) (hstk : stk = As.reverse ++ va_rf o :: st) (kk : J C (ce + rm2.cells) (sl + rm2.slots) M' (pc + 3) lv (rv.toList ++ st)) : J C ce sl M pc lv stk := by
  obtain ⟨i, rfl, hi1, hi2⟩ := ho
  subst hstk
  obtain ⟨m1, m2, m3, m4, m5⟩ := hm
  obtain ⟨p, l, e, R, s, m, args, below, meth, c, H0, A, Q, nL0, G, ad0, n0⟩ := C
  obtain ⟨hx, hb, hml, hnl, hown, hts, hKK, hH0, hA, hlk, hrt, hR, hQ, hxt⟩ := hC
  intro ad H locs ls hW hAa hag hn hvl hvs hS hl
  subst hR
  subst hnl
  have hvs2 := vs_arr hvs
  refine W_call (M := M) (M' := M') (rv := rv) (va_runV (cc := cc) (nL := nL0) (Ts := BIG) (own := own) (As := As.map (phys ad)) (rest := st.map (phys ad)) (C := Cn) (b := ad i) ⟨hx, hb, hml, hown, hts⟩ (by have h9 := hcon l hxt.2 G ad H.size; rw [if_neg (by decide)] at h9; exact h9) (cwV n hts (big_inB (fun w hw9 => by
      rcases List.mem_append.mp hw9 with h | h
      · simp only [List.mem_cons, List.not_mem_nil, or_false] at h
        rcases h with h | h | h | h <;> subst h
        · exact hw
        · exact m2
        · exact m3
        · exact m4
      · exact big_cons m1 w h)) rfl rfl rfl m5 hf) ⟨PreC_blind, hq.2 ▸ rcv_of9 hW hKK hi1 hi2 hq.1, PreC_of hW hAa hA hKK (hH0 ▸ hS) (vs_c (vs_h hvs2.2) hvs2.1)⟩ rfl (by rw [List.length_map]; exact hn9) hl.1 (by show List.map (phys ad) _ = _; rw [List.map_append, List.map_reverse]; rfl) (by show 0 + _ ≤ 8; rw [Nat.zero_add, cat_map]; exact hcat) hdg hce) hAa (by rw [hH0]; exact hA) hS (fun ad' H1 locs1 g1 g2 g3 g4 g5 g6 => ?_)
  have k2 := kk ad' H1 locs1 ls g3 g4 (fun i hi => (g1 i (Nat.lt_of_lt_of_le hi hn)).trans (hag i hi)) (Nat.le_trans hn g2) (fun q hq => Vok_mono g2 (hvl q hq)) (vs_ret g5 (fun v hv => Vok_mono g2 ((vs_t hvs2.2) v hv))) g6 (by rw [mapl_ag g1 hvl]; exact hl)
  rw [← ret_map, map_ag g1 (vs_t hvs2.2)] at k2
  exact k2
theorem J_callS {C : JC} {x : Bool} {cc : ByteArray} {nL : Nat} {rm : Room} {rt : Option FieldType} {own : String} {res : Res} {ce sl : Nat} {M : Mem} {pc : Nat} {lv : List (Nat × Value)} {st : List Value} {y : MethodName} {cc2 : ByteArray} {maxL2 index : Nat} {ret2 : Option FieldType} {rm2 : Room} {As : List Value} {M' : Mem} {rv : Option Value} {stk : List Value} {n : Nat} (hC : Ok C x cc nL rm rt own res) (hcon : ∀ l, l.stackTraces = false → Con false l y cc2 maxL2 ret2 rm2 As M (M', .inr rv)) (hm : SMok y cc2 maxL2 ret2 n) (hw : Cond.methodLink own index y ∈ BIG) (hn9 : As.length = n) (hf : rm2.frames + 1 ≤ rm.frames ∧ 8 + (maxL2 + 11) + rm2.locals ≤ rm.locals) (hcat : (st.map fun v => v.category).sum ≤ 8) (hce : ce + rm2.cells ≤ rm.cells ∧ sl + rm2.slots ≤ rm.slots)
    (hdg : decode cc pc = .ok (.invokestatic index, 3)) (hstk : stk = As.reverse ++ st) (kk : J C (ce + rm2.cells) (sl + rm2.slots) M' (pc + 3) lv (rv.toList ++ st)) : J C ce sl M pc lv stk := by
  subst hstk
  obtain ⟨m1, m2, m3, m4⟩ := hm
  obtain ⟨p, l, e, R, s, m, args, below, meth, c, H0, A, Q, nL0, G, ad0, n0⟩ := C
  obtain ⟨hx, hb, hml, hnl, hown, hts, hKK, hH0, hA, hlk, hrt, hR, hQ, hxt⟩ := hC
  intro ad H locs ls hW hAa hag hn hvl hvs hS hl
  subst hR
  subst hnl
  have hvs2 := vs_arr hvs
  refine W_call (M := M) (M' := M') (rv := rv) (va_runS (cc := cc) (nL := nL0) (Ts := BIG) (own := own) (As := As.map (phys ad)) (rest := st.map (phys ad)) ⟨hx, hb, hml, hown, hts⟩ (by have h9 := hcon l hxt.2 G ad H.size; rw [if_neg (by decide)] at h9; exact h9) (va_cwS n hts (big_inB (fun w hw9 => by
      rcases List.mem_append.mp hw9 with h | h
      · simp only [List.mem_cons, List.not_mem_nil, or_false] at h
        rcases h with h | h | h <;> subst h
        · exact hw
        · exact m2
        · exact m3
      · exact big_cons m1 w h)) rfl rfl rfl m4 hf) ⟨PreC_blind, PreC_of hW hAa hA hKK (hH0 ▸ hS) hvs2.1⟩ rfl (by rw [List.length_map]; exact hn9) hl.1 (by show List.map (phys ad) _ = _; rw [List.map_append, List.map_reverse]) (by show 0 + _ ≤ 8; rw [Nat.zero_add, cat_map]; exact hcat) hdg hce) hAa (by rw [hH0]; exact hA) hS (fun ad' H1 locs1 g1 g2 g3 g4 g5 g6 => ?_)
  have k2 := kk ad' H1 locs1 ls g3 g4 (fun i hi => (g1 i (Nat.lt_of_lt_of_le hi hn)).trans (hag i hi)) (Nat.le_trans hn g2) (fun q hq => Vok_mono g2 (hvl q hq)) (vs_ret g5 (fun v hv => Vok_mono g2 (hvs2.2 v hv))) g6 (by rw [mapl_ag g1 hvl]; exact hl)
  rw [← ret_map, map_ag g1 hvs2.2] at k2
  exact k2
theorem J_callSN {C : JC} {x : Bool} {cc : ByteArray} {nL : Nat} {rm : Room} {rt : Option FieldType} {own : String} {res : Res} {ce sl : Nat} {M : Mem} {pc : Nat} {lv : List (Nat × Value)} {st : List Value} {y : MethodName} {cc2 : ByteArray} {maxL2 index : Nat} {ret2 : Option FieldType} {rm2 : Room} {As : List Value} {M' : Mem} {rv : Option Value} {stk : List Value} {n : Nat} {host : String} (hC : Ok C x cc nL rm rt own res) (hcon : ∀ l, l.stackTraces = false → Con false l y cc2 maxL2 ret2 rm2 As M (M', .inr rv)) (hm : SMok y cc2 maxL2 ret2 n) (hw : ∀ U, nestB U → va_Nw (.methodLinkNest own index y host) U) (hn9 : As.length = n) (hf : rm2.frames + 1 ≤ rm.frames ∧ 8 + (maxL2 + 11) + rm2.locals ≤ rm.locals) (hcat : (st.map fun v => v.category).sum ≤ 8) (hce : ce + rm2.cells ≤ rm.cells ∧ sl + rm2.slots ≤ rm.slots)
    (hdg : decode cc pc = .ok (.invokestatic index, 3)) (hstk : stk = As.reverse ++ st) (kk : J C (ce + rm2.cells) (sl + rm2.slots) M' (pc + 3) lv (rv.toList ++ st)) : J C ce sl M pc lv stk := by
  subst hstk
  obtain ⟨m1, m2, m3, m4⟩ := hm
  obtain ⟨p, l, e, R, s, m, args, below, meth, c, H0, A, Q, nL0, G, ad0, n0⟩ := C
  obtain ⟨hx, hb, hml, hnl, hown, hts, hKK, hH0, hA, hlk, hrt, hR, hQ, hxt⟩ := hC
  intro ad H locs ls hW hAa hag hn hvl hvs hS hl
  subst hR
  subst hnl
  have hvs2 := vs_arr hvs
  refine W_call (M := M) (M' := M') (rv := rv) (va_runSN (host := host) (cc := cc) (nL := nL0) (Ts := BIG) (own := own) (As := As.map (phys ad)) (rest := st.map (phys ad)) ⟨hx, hb, hml, hown, hts⟩ (by have h9 := hcon l hxt.2 G ad H.size; rw [if_neg (by decide)] at h9; exact h9) ⟨va_cnB n hts (big_inB (big_cons m1)) rfl rfl rfl (hw s hKK.1.2.1) (hts _ m3) m4 hf, hts _ m2, trivial⟩ ⟨PreC_blind, PreC_of hW hAa hA hKK (hH0 ▸ hS) hvs2.1⟩ rfl (by rw [List.length_map]; exact hn9) hl.1 (by show List.map (phys ad) _ = _; rw [List.map_append, List.map_reverse]) (by show 0 + _ ≤ 8; rw [Nat.zero_add, cat_map]; exact hcat) hdg hce) hAa (by rw [hH0]; exact hA) hS (fun ad' H1 locs1 g1 g2 g3 g4 g5 g6 => ?_)
  have k2 := kk ad' H1 locs1 ls g3 g4 (fun i hi => (g1 i (Nat.lt_of_lt_of_le hi hn)).trans (hag i hi)) (Nat.le_trans hn g2) (fun q hq => Vok_mono g2 (hvl q hq)) (vs_ret g5 (fun v hv => Vok_mono g2 (hvs2.2 v hv))) g6 (by rw [mapl_ag g1 hvl]; exact hl)
  rw [← ret_map, map_ag g1 hvs2.2] at k2
  exact k2
theorem J_callI {C : JC} {x : Bool} {cc : ByteArray} {nL : Nat} {rm : Room} {rt : Option FieldType} {own : String} {res : Res} {ce sl : Nat} {M : Mem} {pc : Nat} {lv : List (Nat × Value)} {st : List Value} {y : MethodName} {cc2 : ByteArray} {maxL2 index : Nat} {rm2 : Room} {As : List Value} {M' : Mem} {rv : Option Value} {stk : List Value} {n : Nat} {o : Option Nat} (hC : Ok C x cc nL rm rt own res) (hcon : ∀ l, l.stackTraces = false → Con false l y cc2 maxL2 none rm2 (va_rf o :: As) M (M', .inr rv)) (hm : IMok y cc2 maxL2 n) (hw : Cond.methodLink own index y ∈ BIG) (ho : ∃ i, o = some i) (hn9 : As.length = n) (hf : rm2.frames + 1 ≤ rm.frames ∧ 8 + (maxL2 + 11) + rm2.locals ≤ rm.locals) (hcat : (st.map fun v => v.category).sum ≤ 8) (hce : ce + rm2.cells ≤ rm.cells ∧ sl + rm2.slots ≤ rm.slots)
    (hdg : decode cc pc = .ok (.invokespecial index, 3)) (hstk : stk = As.reverse ++ va_rf o :: st) (kk : J C (ce + rm2.cells) (sl + rm2.slots) M' (pc + 3) lv (rv.toList ++ st)) : J C ce sl M pc lv stk := by
  obtain ⟨i, rfl⟩ := ho
  subst hstk
  obtain ⟨m1, m2, m3, m4, m5⟩ := hm
  obtain ⟨p, l, e, R, s, m, args, below, meth, c, H0, A, Q, nL0, G, ad0, n0⟩ := C
  obtain ⟨hx, hb, hml, hnl, hown, hts, hKK, hH0, hA, hlk, hrt, hR, hQ, hxt⟩ := hC
  intro ad H locs ls hW hAa hag hn hvl hvs hS hl
  subst hR
  subst hnl
  have hvs2 := vs_arr hvs
  refine W_call (M := M) (M' := M') (rv := rv) (va_runI (cc := cc) (nL := nL0) (Ts := BIG) (own := own) (As := As.map (phys ad)) (rest := st.map (phys ad)) (b := ad i) ⟨hx, hb, hml, hown, hts⟩ (by have h9 := hcon l hxt.2 G ad H.size; rw [if_neg (by decide)] at h9; exact h9) (cwI n hts (big_inB (big_cons m1)) rfl rfl rfl (hts _ m3) (hts _ hw) (hts _ m2) m4 m5 hf) ⟨PreC_blind, PreC_of hW hAa hA hKK (hH0 ▸ hS) (vs_c (vs_h hvs2.2) hvs2.1)⟩ rfl (by rw [List.length_map]; exact hn9) hl.1 (by show List.map (phys ad) _ = _; rw [List.map_append, List.map_reverse]; rfl) (by show 0 + _ ≤ 8; rw [Nat.zero_add, cat_map]; exact hcat) hdg hce) hAa (by rw [hH0]; exact hA) hS (fun ad' H1 locs1 g1 g2 g3 g4 g5 g6 => ?_)
  have k2 := kk ad' H1 locs1 ls g3 g4 (fun i hi => (g1 i (Nat.lt_of_lt_of_le hi hn)).trans (hag i hi)) (Nat.le_trans hn g2) (fun q hq => Vok_mono g2 (hvl q hq)) (vs_ret g5 (fun v hv => Vok_mono g2 ((vs_t hvs2.2) v hv))) g6 (by rw [mapl_ag g1 hvl]; exact hl)
  rw [← ret_map, map_ag g1 (vs_t hvs2.2)] at k2
  exact k2
theorem J_callIN {C : JC} {x : Bool} {cc : ByteArray} {nL : Nat} {rm : Room} {rt : Option FieldType} {own : String} {res : Res} {ce sl : Nat} {M : Mem} {pc : Nat} {lv : List (Nat × Value)} {st : List Value} {y : MethodName} {cc2 : ByteArray} {maxL2 index : Nat} {rm2 : Room} {As : List Value} {M' : Mem} {rv : Option Value} {stk : List Value} {n : Nat} {o : Option Nat} {host : String} (hC : Ok C x cc nL rm rt own res) (hcon : ∀ l, l.stackTraces = false → Con false l y cc2 maxL2 none rm2 (va_rf o :: As) M (M', .inr rv)) (hm : IMok y cc2 maxL2 n) (hw : ∀ U, nestB U → va_Nw (.methodLinkNest own index y host) U) (ho : ∃ i, o = some i) (hn9 : As.length = n) (hf : rm2.frames + 1 ≤ rm.frames ∧ 8 + (maxL2 + 11) + rm2.locals ≤ rm.locals) (hcat : (st.map fun v => v.category).sum ≤ 8) (hce : ce + rm2.cells ≤ rm.cells ∧ sl + rm2.slots ≤ rm.slots)
    (hdg : decode cc pc = .ok (.invokespecial index, 3)) (hstk : stk = As.reverse ++ va_rf o :: st) (kk : J C (ce + rm2.cells) (sl + rm2.slots) M' (pc + 3) lv (rv.toList ++ st)) : J C ce sl M pc lv stk := by
  obtain ⟨i, rfl⟩ := ho
  subst hstk
  obtain ⟨m1, m2, m3, m4, m5⟩ := hm
  obtain ⟨p, l, e, R, s, m, args, below, meth, c, H0, A, Q, nL0, G, ad0, n0⟩ := C
  obtain ⟨hx, hb, hml, hnl, hown, hts, hKK, hH0, hA, hlk, hrt, hR, hQ, hxt⟩ := hC
  intro ad H locs ls hW hAa hag hn hvl hvs hS hl
  subst hR
  subst hnl
  have hvs2 := vs_arr hvs
  refine W_call (M := M) (M' := M') (rv := rv) (va_runIN (host := host) (cc := cc) (nL := nL0) (Ts := BIG) (own := own) (As := As.map (phys ad)) (rest := st.map (phys ad)) (b := ad i) ⟨hx, hb, hml, hown, hts⟩ (by have h9 := hcon l hxt.2 G ad H.size; rw [if_neg (by decide)] at h9; exact h9) ⟨va_cnB n hts (big_inB (big_cons m1)) rfl rfl rfl (hw s hKK.1.2.1) (hts _ m3) m5 hf, m4, hts _ m2⟩ ⟨PreC_blind, PreC_of hW hAa hA hKK (hH0 ▸ hS) (vs_c (vs_h hvs2.2) hvs2.1)⟩ rfl (by rw [List.length_map]; exact hn9) hl.1 (by show List.map (phys ad) _ = _; rw [List.map_append, List.map_reverse]; rfl) (by show 0 + _ ≤ 8; rw [Nat.zero_add, cat_map]; exact hcat) hdg hce) hAa (by rw [hH0]; exact hA) hS (fun ad' H1 locs1 g1 g2 g3 g4 g5 g6 => ?_)
  have k2 := kk ad' H1 locs1 ls g3 g4 (fun i hi => (g1 i (Nat.lt_of_lt_of_le hi hn)).trans (hag i hi)) (Nat.le_trans hn g2) (fun q hq => Vok_mono g2 (hvl q hq)) (vs_ret g5 (fun v hv => Vok_mono g2 ((vs_t hvs2.2) v hv))) g6 (by rw [mapl_ag g1 hvl]; exact hl)
  rw [← ret_map, map_ag g1 (vs_t hvs2.2)] at k2
  exact k2
theorem J_callVX {C : JC} {x : Bool} {cc : ByteArray} {nL : Nat} {rm : Room} {rt : Option FieldType} {own : String} {res : Res} {ce sl : Nat} {M : Mem} {pc : Nat} {lv : List (Nat × Value)} {st : List Value} {y : MethodName} {cc2 : ByteArray} {maxL2 index : Nat} {ret2 : Option FieldType} {rm2 : Room} {As : List Value} {M' : Mem} {rv : Option Value} {stk : List Value} {n : Nat} {Cn : String} {o : Option Nat} {ci : Nat} {qc : vw_C} (hC : Ok C x cc nL rm rt own res) (hcon : ∀ l, l.stackTraces = false → Con true l y cc2 maxL2 ret2 rm2 (va_rf o :: As) M (M', .inr rv)) (hm : VMok y Cn cc2 maxL2 ret2 n) (hw : Cond.methodLink own index y ∈ BIG) (ho : ∃ i, o = some i ∧ i < M.1 ∧ kd i = ci) (hq : vwCl[ci]? = some qc ∧ qc.1 = Cn) (hn9 : As.length = n) (hf : rm2.frames + 1 ≤ rm.frames ∧ 8 + (maxL2 + 11) + rm2.locals ≤ rm.locals) (hcat : (st.map fun v => v.category).sum ≤ 8) (hce : ce + rm2.cells ≤ rm.cells ∧ sl + rm2.slots ≤ rm.slots)
    (hdg : decode cc pc = .ok (.invokevirtual index, 3)) (hstk : stk = As.reverse ++ va_rf o :: st) (kk : J C (ce + rm2.cells) (sl + rm2.slots) M' (pc + 3) lv (rv.toList ++ st)) : J C ce sl M pc lv stk := by
  obtain ⟨i, rfl, hi1, hi2⟩ := ho
  subst hstk
  obtain ⟨m1, m2, m3, m4, m5⟩ := hm
  obtain ⟨p, l, e, R, s, m, args, below, meth, c, H0, A, Q, nL0, G, ad0, n0⟩ := C
  obtain ⟨hx, hb, hml, hnl, hown, hts, hKK, hH0, hA, hlk, hrt, hR, hQ, hxt⟩ := hC
  intro ad H locs ls hW hAa hag hn hvl hvs hS hl
  subst hR
  subst hnl
  have hvs2 := vs_arr hvs
  refine W_call (M := M) (M' := M') (rv := rv) (run_of_x (vx_runV (cc := cc) (nL := nL0) (Ts := BIG) (own := own) (As := As.map (phys ad)) (rest := st.map (phys ad)) (C := Cn) (b := ad i) ⟨hx, hb, hml, hown, hts⟩ (by have h9 := hcon l hxt.2 G ad H.size; rw [if_pos rfl] at h9; exact h9) (cwV n hts (big_inB (fun w hw9 => by
      rcases List.mem_append.mp hw9 with h | h
      · simp only [List.mem_cons, List.not_mem_nil, or_false] at h
        rcases h with h | h | h | h <;> subst h
        · exact hw
        · exact m2
        · exact m3
        · exact m4
      · exact big_cons m1 w h)) rfl rfl rfl m5 hf) ⟨PreC_blind, hq.2 ▸ rcv_of9 hW hKK hi1 hi2 hq.1, PreC_of hW hAa hA hKK (hH0 ▸ hS) (vs_c (vs_h hvs2.2) hvs2.1)⟩ rfl (by rw [List.length_map]; exact hn9) hl.1 (by show List.map (phys ad) _ = _; rw [List.map_append, List.map_reverse]; rfl) (by show 0 + _ ≤ 8; rw [Nat.zero_add, cat_map]; exact hcat) hdg hce)) hAa (by rw [hH0]; exact hA) hS (fun ad' H1 locs1 g1 g2 g3 g4 g5 g6 => ?_)
  have k2 := kk ad' H1 locs1 ls g3 g4 (fun i hi => (g1 i (Nat.lt_of_lt_of_le hi hn)).trans (hag i hi)) (Nat.le_trans hn g2) (fun q hq => Vok_mono g2 (hvl q hq)) (vs_ret g5 (fun v hv => Vok_mono g2 ((vs_t hvs2.2) v hv))) g6 (by rw [mapl_ag g1 hvl]; exact hl)
  rw [← ret_map, map_ag g1 (vs_t hvs2.2)] at k2
  exact k2
theorem J_callSX {C : JC} {x : Bool} {cc : ByteArray} {nL : Nat} {rm : Room} {rt : Option FieldType} {own : String} {res : Res} {ce sl : Nat} {M : Mem} {pc : Nat} {lv : List (Nat × Value)} {st : List Value} {y : MethodName} {cc2 : ByteArray} {maxL2 index : Nat} {ret2 : Option FieldType} {rm2 : Room} {As : List Value} {M' : Mem} {rv : Option Value} {stk : List Value} {n : Nat} (hC : Ok C x cc nL rm rt own res) (hcon : ∀ l, l.stackTraces = false → Con true l y cc2 maxL2 ret2 rm2 As M (M', .inr rv)) (hm : SMok y cc2 maxL2 ret2 n) (hw : Cond.methodLink own index y ∈ BIG) (hn9 : As.length = n) (hf : rm2.frames + 1 ≤ rm.frames ∧ 8 + (maxL2 + 11) + rm2.locals ≤ rm.locals) (hcat : (st.map fun v => v.category).sum ≤ 8) (hce : ce + rm2.cells ≤ rm.cells ∧ sl + rm2.slots ≤ rm.slots)
    (hdg : decode cc pc = .ok (.invokestatic index, 3)) (hstk : stk = As.reverse ++ st) (kk : J C (ce + rm2.cells) (sl + rm2.slots) M' (pc + 3) lv (rv.toList ++ st)) : J C ce sl M pc lv stk := by
  subst hstk
  obtain ⟨m1, m2, m3, m4⟩ := hm
  obtain ⟨p, l, e, R, s, m, args, below, meth, c, H0, A, Q, nL0, G, ad0, n0⟩ := C
  obtain ⟨hx, hb, hml, hnl, hown, hts, hKK, hH0, hA, hlk, hrt, hR, hQ, hxt⟩ := hC
  intro ad H locs ls hW hAa hag hn hvl hvs hS hl
  subst hR
  subst hnl
  have hvs2 := vs_arr hvs
  refine W_call (M := M) (M' := M') (rv := rv) (run_of_x (vx_runS (cc := cc) (nL := nL0) (Ts := BIG) (own := own) (As := As.map (phys ad)) (rest := st.map (phys ad)) ⟨hx, hb, hml, hown, hts⟩ (by have h9 := hcon l hxt.2 G ad H.size; rw [if_pos rfl] at h9; exact h9) (va_cwS n hts (big_inB (fun w hw9 => by
      rcases List.mem_append.mp hw9 with h | h
      · simp only [List.mem_cons, List.not_mem_nil, or_false] at h
        rcases h with h | h | h <;> subst h
        · exact hw
        · exact m2
        · exact m3
      · exact big_cons m1 w h)) rfl rfl rfl m4 hf) ⟨PreC_blind, PreC_of hW hAa hA hKK (hH0 ▸ hS) hvs2.1⟩ rfl (by rw [List.length_map]; exact hn9) hl.1 (by show List.map (phys ad) _ = _; rw [List.map_append, List.map_reverse]) (by show 0 + _ ≤ 8; rw [Nat.zero_add, cat_map]; exact hcat) hdg hce)) hAa (by rw [hH0]; exact hA) hS (fun ad' H1 locs1 g1 g2 g3 g4 g5 g6 => ?_)
  have k2 := kk ad' H1 locs1 ls g3 g4 (fun i hi => (g1 i (Nat.lt_of_lt_of_le hi hn)).trans (hag i hi)) (Nat.le_trans hn g2) (fun q hq => Vok_mono g2 (hvl q hq)) (vs_ret g5 (fun v hv => Vok_mono g2 (hvs2.2 v hv))) g6 (by rw [mapl_ag g1 hvl]; exact hl)
  rw [← ret_map, map_ag g1 hvs2.2] at k2
  exact k2
theorem J_objInit {C : JC} {x : Bool} {cc : ByteArray} {nL : Nat} {rm : Room} {rt : Option FieldType} {own : String} {res : Res} {ce sl : Nat} {M : Mem} {pc : Nat} {lv : List (Nat × Value)} {st : List Value} {idx : Nat} {o : Option Nat} (hC : Ok C x cc nL rm rt own res) (hw : Cond.methodLink own idx objectInit ∈ BIG) (ho : ∃ i, o = some i) (hf : 1 ≤ rm.frames) (hlo : (st.map fun v => v.category).sum + 12 ≤ rm.locals) (hdg : decode cc pc = .ok (.invokespecial idx, 3)) (kk : J C ce sl M (pc + 3) lv st) : J C ce sl M pc lv (va_rf o :: st) := by
  obtain ⟨i, rfl⟩ := ho
  obtain ⟨p, l, e, R, s, m, args, below, meth, c, H0, A, Q, nL0, G, ad0, n0⟩ := C
  obtain ⟨hx, hb, hml, hnl, hown, hts, hKK, hH0, hA, hlk, hrt, hR, hQ, hxt⟩ := hC
  intro ad H locs ls hW hAa hag hn hvl hvs hS hl
  subst hR
  exact W.objInit hx hb hown (hts _ hw) (hts _ w_oi1) (hts _ w_oi2) rfl (by show ls.size = _; rw [hml, ← hnl]; exact hl.1) rfl hdg hf (by show 2 * 0 + _ + 12 ≤ _; rw [cat_map]; omega) (kk ad H locs ls hW hAa hag hn hvl (vs_t hvs) hS hl)
/-! ===== throws ===== -/
def thr {α β : Type} (r : Mem × (String ⊕ α)) (k : α → Option (Mem × (String ⊕ β))) : Option (Mem × (String ⊕ β)) := match r.2 with
  | .inl E => some (r.1, .inl E)
  | .inr v => k v
def toRes {α : Type} (tv : α → Option Value) (r : Mem × (String ⊕ α)) : Res := (r.1, match r.2 with
  | .inl E => .inl E
  | .inr v => .inr (tv v))
def atOk (own : String) (ic : Nat) (cls : String) : Prop := (∀ w ∈ (vx_atS own ic cls ["java/lang/RuntimeException", "java/lang/Exception"]).filter goodWord, w ∈ BIG) ∧ (∀ w ∈ (vx_atS own ic cls ["java/lang/RuntimeException", "java/lang/Exception"]).filter (fun w => !goodWord w), w ∈ [Cond.castable cls cls, .declares yRE, .declares yEX, .declares yTH]) ∧ (∀ w ∈ vx_atS own ic cls ["java/lang/RuntimeException", "java/lang/Exception"], vx_ot w = true) ∧ Bundle.fit cls = true ∧ (∀ U, castB U → va_Nw (.castable cls cls) U)
theorem J_throw {C : JC} {cc : ByteArray} {nL : Nat} {rm : Room} {rt : Option FieldType} {own : String} {res : Res} {ce sl : Nat} {M : Mem} {pc : Nat} {lv : List (Nat × Value)} {st : List Value} {cls text : String} {ik is ic : Nat} (hC : Ok C true cc nL rm rt RX2 res) (hat : atOk RX2 ic cls) (hw1 : Cond.classLink RX2 ik cls ∈ BIG) (hw2 : Cond.initialized cls ∈ BIG) (htx : ∀ U, strB U → ∃ sa, vk_R RX2 is text sa U)
    (d0 : decode cc pc = .ok (.new ik, 3)) (d3 : decode cc (pc + 3) = .ok (.dup, 1)) (d4 : decode cc (pc + 4) = .ok (.ldc is, 2)) (d6 : decode cc (pc + 6) = .ok (.invokespecial ic, 3)) (d9 : decode cc (pc + 9) = .ok (.athrow, 1)) (hres : (M, Sum.inl cls) = res)
    (hfr : 5 < rm.frames) (hlo : (st.map fun v => v.category).sum + 82 ≤ rm.locals) (hce : ce + 1 ≤ rm.cells) (hsl : sl + 6 ≤ rm.slots) : J C ce sl M pc lv st := by
  obtain ⟨p, l, e, R, s, m, args, below, meth, c, H0, A, Q, nL0, G, ad0, n0⟩ := C
  obtain ⟨hx, hb, hml, hnl, hown, hts, hKK, hH0, hA, hlk, hrt, hR, hQ, hxt⟩ := hC
  intro ad H locs ls hW hAa hag hn hvl hvs hS hl
  subst hres
  subst hR
  subst hH0
  obtain ⟨hex, hst⟩ := (⟨hxt.1 rfl, hxt.2⟩ : (∀ z ∈ c.exceptionTable.toList, False) ∧ l.stackTraces = false)
  obtain ⟨a1, a2, a3, a4, a5⟩ := hat
  obtain ⟨sa, hsa⟩ := htx s hKK.1.2.2.1
  rw [if_pos rfl] at hQ
  subst hQ
  refine vx_throwS (names := ["java/lang/RuntimeException", "java/lang/Exception"]) hx hb hst hown a4 (by decide +kernel) (hts _ hw1) (hts _ hw2) hsa (vx_hat (fun w h => hts w (a1 w h)) a2 (vx_c (va_Nw.use rfl (a5 s hKK.1.2.2.2.2)) (vx_c (va_Nw.use rfl hKK.1.2.2.2.2.2.1) (vx_c (va_Nw.use rfl hKK.1.2.2.2.2.2.2.1) (vx_c (va_Nw.use rfl hKK.1.2.2.2.2.2.2.2) vx_n))))) (fun w hw => ?_) hKK.2.1 hKK.2.2 hS (by rw [hml, ← hnl]; exact hl.1) d0 d3 d4 d6 d9 (fun x hx9 => (hex x hx9).elim) (by simpa using hfr) (by rw [cat_map]; simpa using hlo) hce hsl hlk (fun t hal hz hk => ?_) hS.2.2 hce hsl
  · rcases List.mem_cons.mp hw with h | hw
    · rw [h]; rfl
    · rcases List.mem_cons.mp hw with h | hw
      · rw [h]; rfl
      · exact a3 w hw
  · exact ⟨⟨ad, rfl, hag, hn, ⟨hW.1.kept (fun k9 x hx9 => hk x.1 ((hW.1 k9 x hx9).lt)), hW.2⟩, hAa⟩, Nat.le_trans hS.1 hz, fun q h1 h2 => (hk q (Nat.lt_of_lt_of_le h1 hS.1)).trans (hS.2.1 q h1 h2)⟩
theorem J_thrV {C : JC} {cc : ByteArray} {nL : Nat} {rm : Room} {rt : Option FieldType} {own : String} {res : Res} {ce sl : Nat} {M : Mem} {pc : Nat} {lv : List (Nat × Value)} {st : List Value} {y : MethodName} {cc2 : ByteArray} {maxL2 index : Nat} {ret2 : Option FieldType} {rm2 : Room} {As : List Value} {M' : Mem} {stk : List Value} {n : Nat} {E : String} {Cn : String} {o : Option Nat} {ci : Nat} {qc : vw_C} (hC : Ok C true cc nL rm rt own res) (hcon : ∀ l, l.stackTraces = false → Con true l y cc2 maxL2 ret2 rm2 (va_rf o :: As) M (M', .inl E)) (hm : VMok y Cn cc2 maxL2 ret2 n) (hw : Cond.methodLink own index y ∈ BIG) (ho : ∃ i, o = some i ∧ i < M.1 ∧ kd i = ci) (hq : vwCl[ci]? = some qc ∧ qc.1 = Cn) (hn9 : As.length = n) (hf : rm2.frames + 1 ≤ rm.frames ∧ 8 + (maxL2 + 11) + rm2.locals ≤ rm.locals) (hcat : (st.map fun v => v.category).sum ≤ 8) (hce : ce + rm2.cells ≤ rm.cells ∧ sl + rm2.slots ≤ rm.slots)
    (hdg : decode cc pc = .ok (.invokevirtual index, 3)) (hstk : stk = As.reverse ++ va_rf o :: st) (hres : (M', Sum.inl E) = res) : J C ce sl M pc lv stk := by
  obtain ⟨i, rfl, hi1, hi2⟩ := ho
  subst hstk
  obtain ⟨m1, m2, m3, m4, m5⟩ := hm
  obtain ⟨p, l, e, R, s, m, args, below, meth, c, H0, A, Q, nL0, G, ad0, n0⟩ := C
  obtain ⟨hx, hb, hml, hnl, hown, hts, hKK, hH0, hA, hlk, hrt, hR, hQ, hxt⟩ := hC
  intro ad H locs ls hW hAa hag hn hvl hvs hS hl
  subst hres
  subst hR
  subst hnl
  obtain ⟨hex, hst⟩ := (⟨hxt.1 rfl, hxt.2⟩ : (∀ z ∈ c.exceptionTable.toList, False) ∧ l.stackTraces = false)
  rw [if_pos rfl] at hQ
  subst hQ
  have hvs2 := vs_arr hvs
  have h9 := hcon l hst G ad H.size
  rw [if_pos rfl] at h9
  have hr := vx_runV (p := p) (l := l) (e := e) (R := R) (s := s) (m := m) (args := args) (below := below) (meth := meth) (c := c) (H := H) (locs := locs) (cells := ce) (slots := sl) (g := F0 m pc ls (((As.map (phys ad)).reverse ++ .ref (ad i) :: st.map (phys ad)))) (cc := cc) (nL := nL0) (Ts := BIG) (own := own) (As := As.map (phys ad)) (rest := st.map (phys ad)) (C := Cn) (b := ad i) ⟨hx, hb, hml, hown, hts⟩ h9 (cwV n hts (big_inB (fun w hw9 => by
      rcases List.mem_append.mp hw9 with h | h
      · simp only [List.mem_cons, List.not_mem_nil, or_false] at h
        rcases h with h | h | h | h <;> subst h
        · exact hw
        · exact m2
        · exact m3
        · exact m4
      · exact big_cons m1 w h)) rfl rfl rfl m5 hf) ⟨PreC_blind, hq.2 ▸ rcv_of9 hW hKK hi1 hi2 hq.1, PreC_of hW hAa hA hKK (hH0 ▸ hS) (vs_c (vs_h hvs2.2) hvs2.1)⟩ rfl (by rw [List.length_map]; exact hn9) hl.1 rfl (by show 0 + _ ≤ 8; rw [Nat.zero_add, cat_map]; exact hcat) hdg hce
  intro T hT X
  have hst9 : List.map (phys ad) (As.reverse ++ va_rf (some i) :: st) = (As.map (phys ad)).reverse ++ .ref (ad i) :: st.map (phys ad) := by rw [List.map_append, List.map_reverse]; rfl
  rw [hst9]
  rcases hr T hT X with ⟨v, st₀, t, T', L, h0, X', hL, e1, e2, ⟨⟨ad', rv', q1, -⟩, -⟩, -⟩ | ⟨q, st₀, t, T', L, E2, cel, h0, X', hL, e1, e2, ⟨⟨ad', q1, q3, q4, q5, q6⟩, hz, hk⟩, hcell, hv, hcl, stp⟩
  · cases q1
  cases q1
  rw [h0] at hz hk
  have hsub := Aset_sub hAa (by rw [hH0]; exact hA) hS.1
  have hS2 : va_S A H0 T'.heap (locs ++ L) := ⟨Nat.le_trans hS.1 (by rw [e1]; exact hz), fun q h1 h2 => by rw [e1, hk q (Nat.lt_of_lt_of_le h1 hS.1) (fun z => h2 (hsub q z))]; exact hS.2.1 q h1 h2, fun q hq => by
      rcases List.mem_append.mp hq with h | h
      · exact hS.2.2 q h
      · exact hsub _ (hL q h)⟩
  obtain ⟨t2, a1, b1⟩ := vx_out (Qc := Qret G ad0 n0 A (M', Sum.inl E)) (XC := Qthr G ad0 n0 A (M', Sum.inl E)) (below := below) (free := A) (pc := pc) (ls := ls) (rest := st.map (phys ad)) (E := E) (ce := cel) (q := q) (H := T'.heap) (locs := locs ++ L) (cells := ce + rm2.cells) (slots := sl + rm2.slots) (mc := R.cells) (ms := R.slots) (p := p) (l := l) (e := e) (R := R) (s := s) (m := m) (args := args) (meth := meth) (c := c) (fun x hx9 => (hex x hx9).elim) hlk (by rw [e1]; exact hcell) hv hcl
    (fun t3 ht3 hal => ⟨⟨ad', rfl, fun i hi => (q3 i (Nat.lt_of_lt_of_le hi hn)).trans (hag i hi), Nat.le_trans hn q4, by rw [ht3, e1]; exact q5, fun i hi => hsub _ (q6 i hi)⟩, by rw [ht3, ← hH0]; exact hS2.1, fun q h1 h2 => by rw [ht3]; rw [← hH0] at h1; exact (hS2.2.1 q h1 h2).trans (by rw [hH0])⟩) hS2.2.2 hce.1 hce.2 T' rfl X'
  exact ⟨t2, stp.trans a1, b1⟩
theorem J_thrS {C : JC} {cc : ByteArray} {nL : Nat} {rm : Room} {rt : Option FieldType} {own : String} {res : Res} {ce sl : Nat} {M : Mem} {pc : Nat} {lv : List (Nat × Value)} {st : List Value} {y : MethodName} {cc2 : ByteArray} {maxL2 index : Nat} {ret2 : Option FieldType} {rm2 : Room} {As : List Value} {M' : Mem} {stk : List Value} {n : Nat} {E : String} (hC : Ok C true cc nL rm rt own res) (hcon : ∀ l, l.stackTraces = false → Con true l y cc2 maxL2 ret2 rm2 As M (M', .inl E)) (hm : SMok y cc2 maxL2 ret2 n) (hw : Cond.methodLink own index y ∈ BIG) (hn9 : As.length = n) (hf : rm2.frames + 1 ≤ rm.frames ∧ 8 + (maxL2 + 11) + rm2.locals ≤ rm.locals) (hcat : (st.map fun v => v.category).sum ≤ 8) (hce : ce + rm2.cells ≤ rm.cells ∧ sl + rm2.slots ≤ rm.slots)
    (hdg : decode cc pc = .ok (.invokestatic index, 3)) (hstk : stk = As.reverse ++ st) (hres : (M', Sum.inl E) = res) : J C ce sl M pc lv stk := by
  skip
  subst hstk
  obtain ⟨m1, m2, m3, m4⟩ := hm
  obtain ⟨p, l, e, R, s, m, args, below, meth, c, H0, A, Q, nL0, G, ad0, n0⟩ := C
  obtain ⟨hx, hb, hml, hnl, hown, hts, hKK, hH0, hA, hlk, hrt, hR, hQ, hxt⟩ := hC
  intro ad H locs ls hW hAa hag hn hvl hvs hS hl
  subst hres
  subst hR
  subst hnl
  obtain ⟨hex, hst⟩ := (⟨hxt.1 rfl, hxt.2⟩ : (∀ z ∈ c.exceptionTable.toList, False) ∧ l.stackTraces = false)
  rw [if_pos rfl] at hQ
  subst hQ
  have hvs2 := vs_arr hvs
  have h9 := hcon l hst G ad H.size
  rw [if_pos rfl] at h9
  have hr := vx_runS (p := p) (l := l) (e := e) (R := R) (s := s) (m := m) (args := args) (below := below) (meth := meth) (c := c) (H := H) (locs := locs) (cells := ce) (slots := sl) (g := F0 m pc ls ((As.map (phys ad)).reverse ++ st.map (phys ad))) (cc := cc) (nL := nL0) (Ts := BIG) (own := own) (As := As.map (phys ad)) (rest := st.map (phys ad)) ⟨hx, hb, hml, hown, hts⟩ h9 (va_cwS n hts (big_inB (fun w hw9 => by
      rcases List.mem_append.mp hw9 with h | h
      · simp only [List.mem_cons, List.not_mem_nil, or_false] at h
        rcases h with h | h | h <;> subst h
        · exact hw
        · exact m2
        · exact m3
      · exact big_cons m1 w h)) rfl rfl rfl m4 hf) ⟨PreC_blind, PreC_of hW hAa hA hKK (hH0 ▸ hS) hvs2.1⟩ rfl (by rw [List.length_map]; exact hn9) hl.1 rfl (by show 0 + _ ≤ 8; rw [Nat.zero_add, cat_map]; exact hcat) hdg hce
  intro T hT X
  have hst9 : List.map (phys ad) (As.reverse ++ st) = (As.map (phys ad)).reverse ++ st.map (phys ad) := by rw [List.map_append, List.map_reverse]
  rw [hst9]
  rcases hr T hT X with ⟨v, st₀, t, T', L, h0, X', hL, e1, e2, ⟨⟨ad', rv', q1, -⟩, -⟩, -⟩ | ⟨q, st₀, t, T', L, E2, cel, h0, X', hL, e1, e2, ⟨⟨ad', q1, q3, q4, q5, q6⟩, hz, hk⟩, hcell, hv, hcl, stp⟩
  · cases q1
  cases q1
  rw [h0] at hz hk
  have hsub := Aset_sub hAa (by rw [hH0]; exact hA) hS.1
  have hS2 : va_S A H0 T'.heap (locs ++ L) := ⟨Nat.le_trans hS.1 (by rw [e1]; exact hz), fun q h1 h2 => by rw [e1, hk q (Nat.lt_of_lt_of_le h1 hS.1) (fun z => h2 (hsub q z))]; exact hS.2.1 q h1 h2, fun q hq => by
      rcases List.mem_append.mp hq with h | h
      · exact hS.2.2 q h
      · exact hsub _ (hL q h)⟩
  obtain ⟨t2, a1, b1⟩ := vx_out (Qc := Qret G ad0 n0 A (M', Sum.inl E)) (XC := Qthr G ad0 n0 A (M', Sum.inl E)) (below := below) (free := A) (pc := pc) (ls := ls) (rest := st.map (phys ad)) (E := E) (ce := cel) (q := q) (H := T'.heap) (locs := locs ++ L) (cells := ce + rm2.cells) (slots := sl + rm2.slots) (mc := R.cells) (ms := R.slots) (p := p) (l := l) (e := e) (R := R) (s := s) (m := m) (args := args) (meth := meth) (c := c) (fun x hx9 => (hex x hx9).elim) hlk (by rw [e1]; exact hcell) hv hcl
    (fun t3 ht3 hal => ⟨⟨ad', rfl, fun i hi => (q3 i (Nat.lt_of_lt_of_le hi hn)).trans (hag i hi), Nat.le_trans hn q4, by rw [ht3, e1]; exact q5, fun i hi => hsub _ (q6 i hi)⟩, by rw [ht3, ← hH0]; exact hS2.1, fun q h1 h2 => by rw [ht3]; rw [← hH0] at h1; exact (hS2.2.1 q h1 h2).trans (by rw [hH0])⟩) hS2.2.2 hce.1 hce.2 T' rfl X'
  exact ⟨t2, stp.trans a1, b1⟩
end
section
/-! ===== more rows ===== -/
theorem ite_t {c : Prop} [Decidable c] {α : Type} {A B r : α} (hc : c) (h : (if c then A else B) = r) : A = r := by rw [if_pos hc] at h; exact h
theorem ite_f {c : Prop} [Decidable c] {α : Type} {A B r : α} (hc : ¬ c) (h : (if c then A else B) = r) : B = r := by rw [if_neg hc] at h; exact h
theorem ite_c {c : Prop} [Decidable c] {α : Type} {A B r : α} {G : Prop} (h : (if c then A else B) = r) (kt : c → A = r → G) (kf : ¬ c → B = r → G) : G := by
  by_cases hc : c
  · exact kt hc (ite_t hc h)
  · exact kf hc (ite_f hc h)
theorem ck_c {ci : Nat} {M : Mem} {o : Option Nat} {α : Type} {f : Unit → Option α} {r : α} {G : Prop} (h : (ck ci M o).bind f = some r) (kk : (∃ i, o = some i ∧ i < M.1 ∧ kd i = ci) → f () = some r → G) : G := by
  obtain ⟨u, hu, hf⟩ := bnd h
  exact kk (ck_s hu) hf
theorem bnd_c {α β : Type} {o : Option α} {f : α → Option β} {r : β} {G : Prop} (h : o.bind f = some r) (kk : ∀ v, o = some v → f v = some r → G) : G := by
  obtain ⟨v, hv, hf⟩ := bnd h
  exact kk v hv hf
theorem thr_c {α β : Type} {w : Mem × (String ⊕ α)} {k : α → Option (Mem × (String ⊕ β))} {r : Mem × (String ⊕ β)} {G : Prop} (h : thr w k = some r) (kx : ∀ E, w.2 = .inl E → r = (w.1, .inl E) → G) (kk : ∀ v, w.2 = .inr v → k v = some r → G) : G := by
  obtain ⟨M, E | v⟩ := w
  · exact kx E rfl (Option.some.inj h).symm
  · exact kk v rfl h
/-- a guard on a number that a machine row needs -/
def chk {α : Type} (b : Bool) (k : Option α) : Option α := if b = true then k else none
theorem chk_c {α : Type} {b : Bool} {k : Option α} {r : α} {G : Prop} (h : chk b k = some r) (kk : b = true → k = some r → G) : G := by
  unfold chk at h
  split at h
  case isTrue hb => exact kk hb h
  case isFalse => cases h
def n64b (x : UInt64) : Bool := decide (x &&& 0x7fffffffffffffff ≤ 0x7ff0000000000000)
theorem n64_of {x : UInt64} (h : n64b x = true) : vf_n64 x := by
  unfold vf_n64
  simpa [n64b] using h
theorem ne_of_chk {a b : Int32} (h : (!(a == b)) = true) : ¬ a = b := by simpa using h
theorem J_dcmp {C : JC} {x : Bool} {cc : ByteArray} {nL : Nat} {rm : Room} {rt : Option FieldType} {own : String} {res : Res} {ce sl : Nat} {M : Mem} {pc : Nat} {lv : List (Nat × Value)} {st : List Value} {a b : UInt64} {op : CmpOp} (hC : Ok C x cc nL rm rt own res) (hdg : decode cc pc = .ok (.dcmp op, 1))
    (kk : J C ce sl M (pc + 1) lv (.int (Op.cmpValue (FP.dcmp a b) op) :: st)) : J C ce sl M pc lv (.double b :: .double a :: st) := by
  obtain ⟨p, l, e, R, s, m, args, below, meth, c, H0, A, Q, nL0, G, ad0, n0⟩ := C
  obtain ⟨hx, hb, hml, hnl, hown, hts, hKK, hH0, hA, hlk, hrt, hR, hQ, hxt⟩ := hC
  intro ad H locs ls hW hAa hag hn hvl hvs hS hl
  exact lv_dcmp hx hb hdg (kk ad H locs ls hW hAa hag hn hvl (vs_c Vok_int (vs_t (vs_t hvs))) hS hl)
theorem J_ldcw {C : JC} {x : Bool} {cc : ByteArray} {nL : Nat} {rm : Room} {rt : Option FieldType} {own : String} {res : Res} {ce sl : Nat} {M : Mem} {pc : Nat} {lv : List (Nat × Value)} {st : List Value} {index : Nat} {v : Int32} (hC : Ok C x cc nL rm rt own res) (hw : Cond.constant own index v ∈ BIG) (hdg : decode cc pc = .ok (.ldc_w index, 3))
    (kk : J C ce sl M (pc + 3) lv (.int v :: st)) : J C ce sl M pc lv st := by
  obtain ⟨p, l, e, R, s, m, args, below, meth, c, H0, A, Q, nL0, G, ad0, n0⟩ := C
  obtain ⟨hx, hb, hml, hnl, hown, hts, hKK, hH0, hA, hlk, hrt, hR, hQ, hxt⟩ := hC
  intro ad H locs ls hW hAa hag hn hvl hvs hS hl
  exact lv_ldcw hx hb hown (hts _ hw) hdg (kk ad H locs ls hW hAa hag hn hvl (vs_c Vok_int hvs) hS hl)
theorem J_inc {C : JC} {x : Bool} {cc : ByteArray} {nL : Nat} {rm : Room} {rt : Option FieldType} {own : String} {res : Res} {ce sl : Nat} {M : Mem} {pc : Nat} {lv : List (Nat × Value)} {st : List Value} {i j : Nat} {n : Int} {v k : Int32} {lv' : List (Nat × Value)} (hC : Ok C x cc nL rm rt own res) (hdg : decode cc pc = .ok (.iinc i n, 3)) (hi : i < nL) (hj : lv[j]? = some (i, .int v)) (hk : Int32.ofInt n = k) (hlv : (i, Value.int (v + k)) :: lv.filter (fun q => !(q.1 == i) && !(q.1 + 1 == i && q.2.category == 2)) = lv')
    (kk : J C ce sl M (pc + 3) lv' st) : J C ce sl M pc lv st := J_iinc hC hdg hi hj (by rw [hk]) hlv kk
theorem ne_toInt {a k : Int32} (h : ¬ a = k) : a.toInt ≠ k.toInt := fun e => h (Int32.toInt_inj.mp e)
theorem J_tabIn {C : JC} {x : Bool} {cc : ByteArray} {nL : Nat} {rm : Room} {rt : Option FieldType} {own : String} {res : Res} {ce sl : Nat} {M : Mem} {pc : Nat} {lv : List (Nat × Value)} {st : List Value} {dflt lo hi off : Int} {offs : Array Int} {len tgt : Nat} {a k : Int32} (hC : Ok C x cc nL rm rt own res) (hdg : decode cc pc = .ok (.tableswitch dflt lo hi offs, len)) (hak : a = k) (h1 : ¬ k.toInt < lo) (h2 : ¬ hi < k.toInt) (ho : offs[(k.toInt - lo).toNat]? = some off) (ht : (pc : Int) + off = (tgt : Int)) (kk : J C ce sl M tgt lv st) : J C ce sl M pc lv (.int a :: st) := by
  subst hak
  exact J_tableIn hC hdg h1 h2 ho ht kk
def thrE {α β : Type} (w : String ⊕ α) (fx : String → β) (k : α → β) : β := match w with
  | .inl E => fx E
  | .inr v => k v
theorem thrE_c {α β : Type} {w : String ⊕ α} {fx : String → β} {k : α → β} {r : β} {G : Prop} (h : thrE w fx k = r) (kx : ∀ E, w = .inl E → fx E = r → G) (kk : ∀ v, w = .inr v → k v = r → G) : G := by
  cases w with
  | inl E => exact kx E rfl h
  | inr v => exact kk v rfl h
def mapR {α : Type} (tv : α → Option Value) (w : String ⊕ α) : String ⊕ Option Value := match w with
  | .inl E => .inl E
  | .inr v => .inr (tv v)
theorem cat_rf (a : Option Nat) : (va_rf a).category = 1 := by cases a <;> rfl
/-- more steps than any loop of the class takes -/
def FU : Nat := 2000000
theorem w_rw1 : Cond.native ⟨"java/lang/Double", "doubleToRawLongBits", "(D)J"⟩ ∈ BIG := by decide +kernel
theorem w_rw2 : Cond.static ⟨"java/lang/Double", "doubleToRawLongBits", "(D)J"⟩ ∈ BIG := by decide +kernel
theorem w_rw3 : Cond.initialized "java/lang/Double" ∈ BIG := by decide +kernel
theorem w_rw4 : Cond.methodLink RJxe99ae 134 ⟨"java/lang/Double", "doubleToRawLongBits", "(D)J"⟩ ∈ BIG := by decide +kernel
theorem J_raw {C : JC} {x : Bool} {cc : ByteArray} {nL : Nat} {rm : Room} {rt : Option FieldType} {res : Res} {ce sl : Nat} {M : Mem} {pc : Nat} {lv : List (Nat × Value)} {st : List Value} {b : UInt64} (hC : Ok C x cc nL rm rt RJxe99ae res) (hf : 1 ≤ rm.frames) (hlo : (st.map fun v => v.category).sum + 15 ≤ rm.locals) (hdg : decode cc pc = .ok (.invokestatic 134, 3))
    (kk : J C ce sl M (pc + 3) lv (.long b.toInt64 :: st)) : J C ce sl M pc lv (.double b :: st) := by
  obtain ⟨p, l, e, R, s, m, args, below, meth, c, H0, A, Q, nL0, G, ad0, n0⟩ := C
  obtain ⟨hx, hb, hml, hnl, hown, hts, hKK, hH0, hA, hlk, hrt, hR, hQ, hxt⟩ := hC
  intro ad H locs ls hW hAa hag hn hvl hvs hS hl
  subst hR
  exact vn_d2l hx hb (by rw [hml, ← hnl]; exact hl.1.symm) hown (hts _ w_rw4) (hts _ w_rw1) (hts _ w_rw2) (hts _ w_rw3) hf (by rw [cat_map]; exact hlo) hdg (kk ad H locs ls hW hAa hag hn hvl (vs_c Vok_long (vs_t hvs)) hS hl)
end
section
def fX2_checkNumber (M : Mem) (a0 : Int32) : Option (String ⊕ Unit) :=
  if a0 < 0 then
    some (.inl "java/lang/IndexOutOfBoundsException")
  else
    if a0 < 5 then
      some (.inr ())
    else
      some (.inl "java/lang/IndexOutOfBoundsException")
def fX2_checkPower (M : Mem) (a0 : Int32) : Option (String ⊕ Unit) :=
  if a0 < 0 then
    some (.inl "java/lang/IllegalArgumentException")
  else
    if a0 ≤ 8 then
      some (.inr ())
    else
      some (.inl "java/lang/IllegalArgumentException")
def fX2_checkSign (M : Mem) (a0 : Int32) : Option (String ⊕ Unit) :=
  if a0 < (-1) then
    some (.inl "java/lang/IllegalArgumentException")
  else
    if a0 ≤ 1 then
      some (.inr ())
    else
      some (.inl "java/lang/IllegalArgumentException")
def fX2_dropOldest_9 (x0 : Option Nat) (x1 : Option Nat) (k35 : Mem → Int32 → Option (Mem)) : Nat → Mem → Int32 → Option (Mem)
  | 0, _, _ => none
  | n + 1, M, x2 =>
    if 6 ≤ x2 then
      k35 M x2
    else
      (gR 2 1 M x0).bind fun v3 =>
      (gR 2 1 M x0).bind fun v4 =>
      (aR 8 M v4 x2).bind fun v5 =>
      (wR 8 1 M v3 (x2 - 1) v5).bind fun M6 =>
      fX2_dropOldest_9 x0 x1 k35 n M6 (x2 + 1)
def fX2_dropOldest (M : Mem) (a0 : Option Nat) : Option (Mem) :=
  (gR 2 1 M a0).bind fun v1 =>
  (aR 8 M v1 0).bind fun v2 =>
  fX2_dropOldest_9 a0 v2
    (fun M7 x8 =>
      (gR 2 1 M7 a0).bind fun v9 =>
      (wR 8 1 M7 v9 5 v2).bind fun M10 =>
      (gI 2 2 M10 a0).bind fun v11 =>
      (pI 2 2 M10 a0 (v11 - 1)).bind fun M12 =>
      some M12)
    FU M 1
def fX1_takeOver_2 (x0 : Option Nat) (x1 : Option Nat) (k32 : Mem → Int32 → Option (Mem)) : Nat → Mem → Int32 → Option (Mem)
  | 0, _, _ => none
  | n + 1, M, x2 =>
    if 5 ≤ x2 then
      k32 M x2
    else
      (gR 1 0 M x1).bind fun v1 =>
      (aR 9 M v1 x2).bind fun v2 =>
      (gR 1 0 M x0).bind fun v3 =>
      (aR 9 M v3 x2).bind fun v4 =>
      (cpI M v2 0 v4 0 9).bind fun M5 =>
      fX1_takeOver_2 x0 x1 k32 n M5 (x2 + 1)
def fX1_takeOver (M : Mem) (a0 : Option Nat) (a1 : Option Nat) : Option (Mem) :=
  fX1_takeOver_2 a0 a1
    (fun M6 x7 =>
      (gR 1 1 M6 a1).bind fun v8 =>
      (gR 1 1 M6 a0).bind fun v9 =>
      (cpI M6 v8 0 v9 0 8).bind fun M10 =>
      (gI 1 2 M10 a1).bind fun v11 =>
      (pI 1 2 M10 a0 v11).bind fun M12 =>
      (gI 1 3 M12 a1).bind fun v13 =>
      (pI 1 3 M12 a0 v13).bind fun M14 =>
      (gI 1 4 M14 a1).bind fun v15 =>
      (pI 1 4 M14 a0 v15).bind fun M16 =>
      some M16)
    FU M 0
def fX2_save (M : Mem) (a0 : Option Nat) : Option (Mem) :=
  (gI 2 2 M a0).bind fun v1 =>
  if v1 < 6 then
    (gR 2 1 M a0).bind fun v2 =>
    (gI 2 2 M a0).bind fun v3 =>
    (aR 8 M v2 v3).bind fun v4 =>
    (gR 2 0 M a0).bind fun v5 =>
    (ck 1 M v4).bind fun _ =>
    (fX1_takeOver M v4 v5).bind fun w6 =>
    (gI 2 2 w6 a0).bind fun v7 =>
    (pI 2 2 w6 a0 (v7 + 1)).bind fun M8 =>
    some M8
  else
    (ck 2 M a0).bind fun _ =>
    (fX2_dropOldest M a0).bind fun w9 =>
    (gR 2 1 w9 a0).bind fun v10 =>
    (gI 2 2 w9 a0).bind fun v11 =>
    (aR 8 w9 v10 v11).bind fun v12 =>
    (gR 2 0 w9 a0).bind fun v13 =>
    (ck 1 w9 v12).bind fun _ =>
    (fX1_takeOver w9 v12 v13).bind fun w14 =>
    (gI 2 2 w14 a0).bind fun v15 =>
    (pI 2 2 w14 a0 (v15 + 1)).bind fun M16 =>
    some M16
def fX2_notZero_4 (M : Mem) (x0 : Option Nat) (k25 : Int32 → Int32 → Option (Int32)) : Nat → Int32 → Int32 → Option (Int32)
  | 0, _, _ => none
  | n + 1, x1, x2 =>
    if 9 ≤ x2 then
      k25 x1 x2
    else
      (aI M x0 x2).bind fun v1 =>
      if v1 = 0 then
        fX2_notZero_4 M x0 k25 n x1 (x2 + 1)
      else
        fX2_notZero_4 M x0 k25 n (x1 + 1) (x2 + 1)
def fX2_notZero (M : Mem) (a0 : Option Nat) : Option (Int32) :=
  fX2_notZero_4 M a0
    (fun x2 x3 =>
      some x2)
    FU 0 0
def fX2_isAloneNotZero (M : Mem) (a0 : Option Nat) (a1 : Int32) : Option (Int32) :=
  (aI M a0 a1).bind fun v1 =>
  if v1 = 0 then
    some 0
  else
    (fX2_notZero M a0).bind fun w2 =>
    some (if w2 = 1 then 1 else 0)
def fX2_degreeOf_3 (M : Mem) (x0 : Option Nat) (k13 : Int32 → Option (Int32)) (k21 : Int32 → Option (Int32)) : Nat → Int32 → Option (Int32)
  | 0, _ => none
  | n + 1, x1 =>
    if x1 ≤ 0 then
      k21 x1
    else
      (aI M x0 x1).bind fun v1 =>
      if v1 = 0 then
        fX2_degreeOf_3 M x0 k13 k21 n (x1 + (-1))
      else
        k13 x1
def fX2_degreeOf (M : Mem) (a0 : Option Nat) : Option (Int32) :=
  fX2_degreeOf_3 M a0
    (fun x2 =>
      some x2)
    (fun x3 =>
      some 0)
    FU 8
def fX2_put (M : Mem) (a0 : Option Nat) (a1 : Int32) (a2 : Int32) (a3 : Int32) : Option (Mem × (String ⊕ Int32)) :=
  (fX2_checkNumber M a1).bind fun w1 =>
  thrE w1 (fun E => some (M, .inl E)) fun v2 =>
  (fX2_checkPower M a2).bind fun w3 =>
  thrE w3 (fun E => some (M, .inl E)) fun v4 =>
  (fX2_checkSign M a3).bind fun w5 =>
  thrE w5 (fun E => some (M, .inl E)) fun v6 =>
  (ck 2 M a0).bind fun _ =>
  (fX2_save M a0).bind fun w7 =>
  (gR 2 0 w7 a0).bind fun v8 =>
  (gR 1 0 w7 v8).bind fun v9 =>
  (aR 9 w7 v9 a1).bind fun v10 =>
  if a3 = 0 then
    (fX2_isAloneNotZero w7 v10 a2).bind fun w11 =>
    if w11 = 0 then
      (wI w7 v10 a2 a3).bind fun M12 =>
      (fX2_degreeOf M12 v10).bind fun w13 =>
      some (M12, .inr w13)
    else
      (gR 2 0 w7 a0).bind fun v14 =>
      (gI 1 4 w7 v14).bind fun v15 =>
      (pI 1 4 w7 v14 (v15 + 1)).bind fun M16 =>
      some (M16, .inr (-9))
  else
    (wI w7 v10 a2 a3).bind fun M17 =>
    (fX2_degreeOf M17 v10).bind fun w18 =>
    some (M17, .inr w18)
def fX2_copy (M : Mem) (a0 : Option Nat) (a1 : Int32) (a2 : Int32) : Option (Mem × (String ⊕ Int32)) :=
  (fX2_checkNumber M a1).bind fun w1 =>
  thrE w1 (fun E => some (M, .inl E)) fun v2 =>
  (fX2_checkNumber M a2).bind fun w3 =>
  thrE w3 (fun E => some (M, .inl E)) fun v4 =>
  (ck 2 M a0).bind fun _ =>
  (fX2_save M a0).bind fun w5 =>
  (gR 2 0 w5 a0).bind fun v6 =>
  (gR 1 0 w5 v6).bind fun v7 =>
  (aR 9 w5 v7 a1).bind fun v8 =>
  (gR 2 0 w5 a0).bind fun v9 =>
  (gR 1 0 w5 v9).bind fun v10 =>
  (aR 9 w5 v10 a2).bind fun v11 =>
  (cpI w5 v8 0 v11 0 9).bind fun M12 =>
  (gR 2 0 M12 a0).bind fun v13 =>
  (gR 1 0 M12 v13).bind fun v14 =>
  (aR 9 M12 v14 a2).bind fun v15 =>
  (fX2_degreeOf M12 v15).bind fun w16 =>
  some (M12, .inr w16)
def fX2_zerosBelow_4 (M : Mem) (x0 : Option Nat) (k25 : Int32 → Int32 → Option (Int32)) : Nat → Int32 → Int32 → Option (Int32)
  | 0, _, _ => none
  | n + 1, x1, x2 =>
    if 9 ≤ x2 then
      k25 x1 x2
    else
      (aI M x0 x2).bind fun v1 =>
      if v1 = 0 then
        fX2_zerosBelow_4 M x0 k25 n (x1 + 1) (x2 + 1)
      else
        k25 x1 x2
def fX2_zerosBelow (M : Mem) (a0 : Option Nat) : Option (Int32) :=
  fX2_zerosBelow_4 M a0
    (fun x2 x3 =>
      some x2)
    FU 0 0
def fX2_powerOf (M : Mem) (a0 : Int32) (a1 : Int32) : Option (Int32) :=
  if a1 = 0 then
    some 1
  else
    some (if (a1 - a1 / 2 * 2) = 0 then a0 * a0 else a0)
def fX2_changesOf_7 (M : Mem) (x0 : Option Nat) (x1 : Int32) (k54 : Int32 → Int32 → Int32 → Option (Int32)) : Nat → Int32 → Int32 → Int32 → Option (Int32)
  | 0, _, _, _ => none
  | n + 1, x2, x3, x4 =>
    if 9 ≤ x4 then
      k54 x2 x3 x4
    else
      (aI M x0 x4).bind fun v1 =>
      (fX2_powerOf M x1 x4).bind fun w2 =>
      if (v1 * w2) = 0 then
        fX2_changesOf_7 M x0 x1 k54 n x2 x3 (x4 + 1)
      else
        if x3 = 0 then
          fX2_changesOf_7 M x0 x1 k54 n x2 (v1 * w2) (x4 + 1)
        else
          if (v1 * w2) = x3 then
            fX2_changesOf_7 M x0 x1 k54 n x2 (v1 * w2) (x4 + 1)
          else
            fX2_changesOf_7 M x0 x1 k54 n (x2 + 1) (v1 * w2) (x4 + 1)
def fX2_changesOf (M : Mem) (a0 : Option Nat) (a1 : Int32) : Option (Int32) :=
  fX2_changesOf_7 M a0 a1
    (fun x3 x4 x5 =>
      some x3)
    FU 0 0 0
def fX2_countedTimes (M : Mem) (a0 : Option Nat) (a1 : Int32) : Option (Int32) :=
  if a1 = 0 then
    (fX2_zerosBelow M a0).bind fun w1 =>
    some w1
  else
    (fX2_changesOf M a0 a1).bind fun w2 =>
    some w2
def fX0_start_2 (x0 : Option Nat) (x1 : Option Nat) (x2 : Int32) (k30 : Mem → Int32 → Option (Mem)) : Nat → Mem → Int32 → Option (Mem)
  | 0, _, _ => none
  | n + 1, M, x3 =>
    if 9 ≤ x3 then
      k30 M x3
    else
      (gR 0 0 M x0).bind fun v1 =>
      (aI M x1 x3).bind fun v2 =>
      (wI M v1 x3 v2).bind fun M3 =>
      (gR 0 1 M3 x0).bind fun v4 =>
      (wI M3 v4 x3 0).bind fun M5 =>
      fX0_start_2 x0 x1 x2 k30 n M5 (x3 + 1)
def fX0_start (M : Mem) (a0 : Option Nat) (a1 : Option Nat) (a2 : Int32) : Option (Mem) :=
  fX0_start_2 a0 a1 a2
    (fun M6 x7 =>
      (pI 0 3 M6 a0 a2).bind fun M8 =>
      (fX2_degreeOf M8 a1).bind fun w9 =>
      (pI 0 4 M8 a0 (w9 - 1)).bind fun M10 =>
      (gI 0 4 M10 a0).bind fun v11 =>
      (pI 0 5 M10 a0 (if 0 ≤ v11 then 0 else (-1))).bind fun M12 =>
      (gR 0 1 M12 a0).bind fun v13 =>
      (gI 0 4 M12 a0).bind fun v14 =>
      (wI M12 v13 0 (if 0 ≤ v14 then (-2) else 0)).bind fun M15 =>
      some M15)
    FU M 0
def fX2_markOf (M : Mem) (a0 : Int32) : Option (Int32) :=
  some (if a0 ≤ 0 then (if 0 ≤ a0 then 0 else 2) else 1)
def fX2_holds (M : Mem) (a0 : Int32) (a1 : Int32) : Option (Int32) :=
  if a0 = 3 then
    some 1
  else
    (fX2_markOf M a1).bind fun w1 =>
    some (if a0 = w1 then 1 else 0)
def fX0_fits (M : Mem) (a0 : Option Nat) (a1 : Int32) : Option (Int32) :=
  if a1 = 0 then
    (fX2_markOf M 0).bind fun w1 =>
    (gI 0 3 M a0).bind fun v2 =>
    (gR 0 1 M a0).bind fun v3 =>
    (aI M v3 a1).bind fun v4 =>
    (fX2_markOf M ((-v2) * v4)).bind fun w5 =>
    (gR 0 0 M a0).bind fun v6 =>
    (aI M v6 a1).bind fun v7 =>
    (fX2_holds M (w1 ||| w5) v7).bind fun w8 =>
    some w8
  else
    (gR 0 1 M a0).bind fun v9 =>
    (aI M v9 (a1 - 1)).bind fun v10 =>
    (fX2_markOf M v10).bind fun w11 =>
    (gI 0 3 M a0).bind fun v12 =>
    (gR 0 1 M a0).bind fun v13 =>
    (aI M v13 a1).bind fun v14 =>
    (fX2_markOf M ((-v12) * v14)).bind fun w15 =>
    (gR 0 0 M a0).bind fun v16 =>
    (aI M v16 a1).bind fun v17 =>
    (fX2_holds M (w11 ||| w15) v17).bind fun w18 =>
    some w18
def fX0_advance_2 (x0 : Option Nat) (k131 : Mem → Int32 → Option (Mem × Int32)) (k139 : Mem → Int32 → Option (Mem × Int32)) : Nat → Mem → Int32 → Option (Mem × Int32)
  | 0, _, _ => none
  | n + 1, M, x1 =>
    if 1000000 ≤ x1 then
      k139 M x1
    else
      (gI 0 5 M x0).bind fun v1 =>
      if v1 < 0 then
        k139 M x1
      else
        (gR 0 1 M x0).bind fun v2 =>
        (gI 0 5 M x0).bind fun v3 =>
        (aI M v2 v3).bind fun v4 =>
        if v4 < 1 then
          (gR 0 1 M x0).bind fun v5 =>
          (gI 0 5 M x0).bind fun v6 =>
          (aI M v5 v6).bind fun v7 =>
          (wI M v5 v6 (v7 + 1)).bind fun M8 =>
          (gI 0 5 M8 x0).bind fun v9 =>
          (ck 0 M8 x0).bind fun _ =>
          (fX0_fits M8 x0 v9).bind fun w10 =>
          if w10 = 0 then
            if w10 = 0 then
              fX0_advance_2 x0 k131 k139 n M8 (x1 + 1)
            else
              (gR 0 1 M8 x0).bind fun v11 =>
              (gI 0 4 M8 x0).bind fun v12 =>
              (aI M8 v11 v12).bind fun v13 =>
              if v13 = 0 then
                fX0_advance_2 x0 k131 k139 n M8 (x1 + 1)
              else
                (gI 0 4 M8 x0).bind fun v14 =>
                (ck 0 M8 x0).bind fun _ =>
                (fX0_fits M8 x0 (v14 + 1)).bind fun w15 =>
                if w15 = 0 then
                  fX0_advance_2 x0 k131 k139 n M8 (x1 + 1)
                else
                  k131 M8 x1
          else
            (gI 0 5 M8 x0).bind fun v16 =>
            (gI 0 4 M8 x0).bind fun v17 =>
            if v17 ≤ v16 then
              if w10 = 0 then
                fX0_advance_2 x0 k131 k139 n M8 (x1 + 1)
              else
                (gR 0 1 M8 x0).bind fun v18 =>
                (gI 0 4 M8 x0).bind fun v19 =>
                (aI M8 v18 v19).bind fun v20 =>
                if v20 = 0 then
                  fX0_advance_2 x0 k131 k139 n M8 (x1 + 1)
                else
                  (gI 0 4 M8 x0).bind fun v21 =>
                  (ck 0 M8 x0).bind fun _ =>
                  (fX0_fits M8 x0 (v21 + 1)).bind fun w22 =>
                  if w22 = 0 then
                    fX0_advance_2 x0 k131 k139 n M8 (x1 + 1)
                  else
                    k131 M8 x1
            else
              (gI 0 5 M8 x0).bind fun v23 =>
              (pI 0 5 M8 x0 (v23 + 1)).bind fun M24 =>
              (gR 0 1 M24 x0).bind fun v25 =>
              (gI 0 5 M24 x0).bind fun v26 =>
              (wI M24 v25 v26 (-2)).bind fun M27 =>
              fX0_advance_2 x0 k131 k139 n M27 (x1 + 1)
        else
          (gI 0 5 M x0).bind fun v28 =>
          (pI 0 5 M x0 (v28 - 1)).bind fun M29 =>
          fX0_advance_2 x0 k131 k139 n M29 (x1 + 1)
def fX0_advance (M : Mem) (a0 : Option Nat) : Option (Mem × Int32) :=
  fX0_advance_2 a0
    (fun M30 x31 =>
      some (M30, 1))
    (fun M32 x33 =>
      some (M32, 0))
    FU M 0
def fX0_rememberBest (M : Mem) (a0 : Option Nat) : Option (Mem) :=
  (gR 0 1 M a0).bind fun v1 =>
  (gR 0 2 M a0).bind fun v2 =>
  (cpI M v1 0 v2 0 9).bind fun M3 =>
  some M3
def fX2_tryQuotients_38 (rec : Mem → Option Nat → Int32 → Option Nat → Int32 → Option (Mem × Int32)) (x0 : Option Nat) (x1 : Int32) (x2 : Option Nat) (x3 : Int32) (x4 : Int32) (x6 : Option Nat) (k114 : Mem → Int32 → Int32 → Option (Mem × Int32)) : Nat → Mem → Int32 → Int32 → Option (Mem × Int32)
  | 0, _, _, _ => none
  | n + 1, M, x5, x7 =>
    if 1000000 ≤ x7 then
      k114 M x5 x7
    else
      if x4 ≤ x5 then
        k114 M x5 x7
      else
        (ck 0 M x6).bind fun _ =>
        (fX0_advance M x6).bind fun w5 =>
        if w5.2 = 0 then
          k114 w5.1 x5 x7
        else
          (gR 0 1 w5.1 x6).bind fun v6 =>
          (fX2_countedTimes w5.1 v6 x1).bind fun w7 =>
          if w7 < x5 then
            fX2_tryQuotients_38 rec x0 x1 x2 x3 x4 x6 k114 n w5.1 x5 (x7 + 1)
          else
            (gR 0 1 w5.1 x6).bind fun v8 =>
            (rec w5.1 v8 x1 x2 (x3 + 1)).bind fun w9 =>
            if (1 + w9.2) ≤ x5 then
              fX2_tryQuotients_38 rec x0 x1 x2 x3 x4 x6 k114 n w9.1 x5 (x7 + 1)
            else
              (ck 0 w9.1 x6).bind fun _ =>
              (fX0_rememberBest w9.1 x6).bind fun w10 =>
              fX2_tryQuotients_38 rec x0 x1 x2 x3 x4 x6 k114 n w10 (1 + w9.2) (x7 + 1)
def fX2_tryQuotients_B (rec : Mem → Option Nat → Int32 → Option Nat → Int32 → Option (Mem × Int32)) (M : Mem) (a0 : Option Nat) (a1 : Int32) (a2 : Option Nat) (a3 : Int32) : Option (Mem × Int32) :=
  (fX2_countedTimes M a0 a1).bind fun w1 =>
  if w1 = 0 then
    some (M, 0)
  else
    (aL M a2).bind fun v2 =>
    if a3 < v2 then
      (aR 7 M a2 a3).bind fun v3 =>
      (ck 0 M v3).bind fun _ =>
      (fX0_start M v3 a0 a1).bind fun w4 =>
      fX2_tryQuotients_38 rec a0 a1 a2 a3 w1 v3
        (fun M11 x12 x13 =>
          some (M11, x12))
        FU w4 0 0
    else
      some (M, 0)
def fX2_tryQuotients_D : Nat → Mem → Option Nat → Int32 → Option Nat → Int32 → Option (Mem × Int32)
  | 0, _, _, _, _, _ => none
  | d + 1, M, a0, a1, a2, a3 => fX2_tryQuotients_B (fX2_tryQuotients_D d) M a0 a1 a2 a3
def fX2_tryQuotients (M : Mem) (a0 : Option Nat) (a1 : Int32) (a2 : Option Nat) (a3 : Int32) : Option (Mem × Int32) := fX2_tryQuotients_D 12 M a0 a1 a2 a3
def fX2_divide (M : Mem) (a0 : Option Nat) (a1 : Int32) (a2 : Int32) : Option (Mem × (String ⊕ Int32)) :=
  (fX2_checkNumber M a1).bind fun w1 =>
  thrE w1 (fun E => some (M, .inl E)) fun v2 =>
  (fX2_checkSign M a2).bind fun w3 =>
  thrE w3 (fun E => some (M, .inl E)) fun v4 =>
  (ck 2 M a0).bind fun _ =>
  (fX2_save M a0).bind fun w5 =>
  (gR 2 0 w5 a0).bind fun v6 =>
  (gR 1 0 w5 v6).bind fun v7 =>
  (aR 9 w5 v7 a1).bind fun v8 =>
  (gR 2 8 w5 a0).bind fun v9 =>
  (fX2_tryQuotients w5 v8 a2 v9 0).bind fun w10 =>
  if w10.2 = 0 then
    (gR 2 0 w10.1 a0).bind fun v11 =>
    (gI 1 4 w10.1 v11).bind fun v12 =>
    (pI 1 4 w10.1 v11 (v12 + 1)).bind fun M13 =>
    some (M13, .inr (-9))
  else
    (gR 2 8 w10.1 a0).bind fun v14 =>
    (aR 7 w10.1 v14 0).bind fun v15 =>
    (gR 0 2 w10.1 v15).bind fun v16 =>
    (cpI w10.1 v16 0 v8 0 9).bind fun M17 =>
    (gR 2 0 M17 a0).bind fun v18 =>
    (gI 1 3 M17 v18).bind fun v19 =>
    (pI 1 3 M17 v18 (v19 + 1)).bind fun M20 =>
    (fX2_degreeOf M20 v8).bind fun w21 =>
    some (M20, .inr w21)
def fX2_root (M : Mem) (a0 : Option Nat) (a1 : Int32) : Option (Mem × (String ⊕ Int32)) :=
  if a1 < (-9) then
    some (M, .inl "java/lang/IllegalArgumentException")
  else
    if a1 ≤ 9 then
      (ck 2 M a0).bind fun _ =>
      (fX2_save M a0).bind fun w1 =>
      (gR 2 0 w1 a0).bind fun v2 =>
      (gI 1 2 w1 v2).bind fun v3 =>
      if v3 < 8 then
        (gR 2 0 w1 a0).bind fun v4 =>
        (gR 1 1 w1 v4).bind fun v5 =>
        (gR 2 0 w1 a0).bind fun v6 =>
        (gI 1 2 w1 v6).bind fun v7 =>
        (wI w1 v5 v7 a1).bind fun M8 =>
        (gR 2 0 M8 a0).bind fun v9 =>
        (gI 1 2 M8 v9).bind fun v10 =>
        (pI 1 2 M8 v9 (v10 + 1)).bind fun M11 =>
        (gR 2 0 M11 a0).bind fun v12 =>
        (gI 1 2 M11 v12).bind fun v13 =>
        some (M11, .inr v13)
      else
        (gR 2 0 w1 a0).bind fun v14 =>
        (gI 1 4 w1 v14).bind fun v15 =>
        (pI 1 4 w1 v14 (v15 + 1)).bind fun M16 =>
        some (M16, .inr (-9))
    else
      some (M, .inl "java/lang/IllegalArgumentException")
def fX2_unroot (M : Mem) (a0 : Option Nat) : Option (Mem × Int32) :=
  (ck 2 M a0).bind fun _ =>
  (fX2_save M a0).bind fun w1 =>
  (gR 2 0 w1 a0).bind fun v2 =>
  (gI 1 2 w1 v2).bind fun v3 =>
  if 0 < v3 then
    (gR 2 0 w1 a0).bind fun v4 =>
    (gI 1 2 w1 v4).bind fun v5 =>
    (pI 1 2 w1 v4 (v5 - 1)).bind fun M6 =>
    (gR 2 0 M6 a0).bind fun v7 =>
    (gR 1 1 M6 v7).bind fun v8 =>
    (gR 2 0 M6 a0).bind fun v9 =>
    (gI 1 2 M6 v9).bind fun v10 =>
    (aI M6 v8 v10).bind fun v11 =>
    some (M6, v11)
  else
    (gR 2 0 w1 a0).bind fun v12 =>
    (gI 1 4 w1 v12).bind fun v13 =>
    (pI 1 4 w1 v12 (v13 + 1)).bind fun M14 =>
    some (M14, 99)
def fX2_expandWhole_2 (x0 : Option Nat) (k21 : Mem → Int32 → Option (Mem)) : Nat → Mem → Int32 → Option (Mem)
  | 0, _, _ => none
  | n + 1, M, x1 =>
    if 9 ≤ x1 then
      k21 M x1
    else
      (gR 2 7 M x0).bind fun v1 =>
      (wJ M v1 x1 0).bind fun M2 =>
      fX2_expandWhole_2 x0 k21 n M2 (x1 + 1)
def fX2_expandWhole_51 (x0 : Option Nat) (x1 : Int32) (k93 : Mem → Int32 → Option (Mem)) : Nat → Mem → Int32 → Option (Mem)
  | 0, _, _ => none
  | n + 1, M, x2 =>
    if x2 ≤ 0 then
      k93 M x2
    else
      (gR 2 7 M x0).bind fun v9 =>
      (gR 2 7 M x0).bind fun v10 =>
      (aJ M v10 (x2 - 1)).bind fun v11 =>
      (gR 2 0 M x0).bind fun v12 =>
      (gR 1 1 M v12).bind fun v13 =>
      (aI M v13 x1).bind fun v14 =>
      (gR 2 7 M x0).bind fun v15 =>
      (aJ M v15 x2).bind fun v16 =>
      (wJ M v9 x2 (v11 - (v14.toInt64 * v16))).bind fun M17 =>
      fX2_expandWhole_51 x0 x1 k93 n M17 (x2 + (-1))
def fX2_expandWhole_30 (x0 : Option Nat) (k123 : Mem → Int32 → Option (Mem)) : Nat → Mem → Int32 → Option (Mem)
  | 0, _, _ => none
  | n + 1, M, x1 =>
    (gR 2 0 M x0).bind fun v7 =>
    (gI 1 2 M v7).bind fun v8 =>
    if v8 ≤ x1 then
      k123 M x1
    else
      if 8 ≤ x1 then
        k123 M x1
      else
        fX2_expandWhole_51 x0 x1
          (fun M18 x19 =>
            (gR 2 7 M18 x0).bind fun v20 =>
            (gR 2 0 M18 x0).bind fun v21 =>
            (gR 1 1 M18 v21).bind fun v22 =>
            (aI M18 v22 x1).bind fun v23 =>
            (gR 2 7 M18 x0).bind fun v24 =>
            (aJ M18 v24 0).bind fun v25 =>
            (wJ M18 v20 0 (((-v23).toInt64) * v25)).bind fun M26 =>
            fX2_expandWhole_30 x0 k123 n M26 (x1 + 1))
          FU M (x1 + 1)
def fX2_expandWhole (M : Mem) (a0 : Option Nat) : Option (Mem) :=
  fX2_expandWhole_2 a0
    (fun M3 x4 =>
      (gR 2 7 M3 a0).bind fun v5 =>
      (wJ M3 v5 0 1).bind fun M6 =>
      fX2_expandWhole_30 a0
        (fun M27 x28 =>
          some M27)
        FU M6 0)
    FU M 0
def fX2_signOf (M : Mem) (a0 : Int64) : Option (Int32) :=
  some (if (lg_cmp a0 0) ≤ 0 then (if 0 ≤ (lg_cmp a0 0) then 0 else (-1)) else 1)
def fX2_lower_24 (x0 : Option Nat) (x1 : Int32) (x2 : Option Nat) (k48 : Mem → Int32 → Option (Mem × (String ⊕ Int32))) : Nat → Mem → Int32 → Option (Mem × (String ⊕ Int32))
  | 0, _, _ => none
  | n + 1, M, x3 =>
    if 9 ≤ x3 then
      k48 M x3
    else
      (gR 2 7 M x0).bind fun v8 =>
      (aJ M v8 x3).bind fun v9 =>
      (fX2_signOf M v9).bind fun w10 =>
      (wI M x2 x3 w10).bind fun M11 =>
      fX2_lower_24 x0 x1 x2 k48 n M11 (x3 + 1)
def fX2_lower (M : Mem) (a0 : Option Nat) (a1 : Int32) : Option (Mem × (String ⊕ Int32)) :=
  (fX2_checkNumber M a1).bind fun w1 =>
  thrE w1 (fun E => some (M, .inl E)) fun v2 =>
  (ck 2 M a0).bind fun _ =>
  (fX2_save M a0).bind fun w3 =>
  (ck 2 w3 a0).bind fun _ =>
  (fX2_expandWhole w3 a0).bind fun w4 =>
  (gR 2 0 w4 a0).bind fun v5 =>
  (gR 1 0 w4 v5).bind fun v6 =>
  (aR 9 w4 v6 a1).bind fun v7 =>
  fX2_lower_24 a0 a1 v7
    (fun M12 x13 =>
      (fX2_degreeOf M12 v7).bind fun w14 =>
      some (M12, .inr w14))
    FU w4 0
def fX2_append (M : Mem) (a0 : Option Nat) (a1 : Int32) : Option (Mem × (String ⊕ Int32)) :=
  if a1 < 33 then
    some (M, .inl "java/lang/IllegalArgumentException")
  else
    if a1 ≤ 126 then
      (gI 2 6 M a0).bind fun v1 =>
      if v1 < 60 then
        (gR 2 5 M a0).bind fun v2 =>
        (gI 2 6 M a0).bind fun v3 =>
        (wI M v2 v3 a1).bind fun M4 =>
        (gI 2 6 M4 a0).bind fun v5 =>
        (pI 2 6 M4 a0 (v5 + 1)).bind fun M6 =>
        (gI 2 6 M6 a0).bind fun v7 =>
        some (M6, .inr v7)
      else
        some (M, .inl "java/lang/IllegalStateException")
    else
      some (M, .inl "java/lang/IllegalArgumentException")
def fX2_clearBuffer (M : Mem) (a0 : Option Nat) : Option (Mem × Int32) :=
  (gI 2 6 M a0).bind fun v1 =>
  (pI 2 6 M a0 0).bind fun M2 =>
  some (M2, v1)
def fX2_isSignCode (M : Mem) (a0 : Int32) : Option (Int32) :=
  some (if a0 = 43 then 1 else (if a0 = 45 then 1 else (if a0 = 48 then 1 else 0)))
def fX2_errorPlace_2 (M : Mem) (x0 : Option Nat) (k49 : Int32 → Option (Int32)) (k57 : Int32 → Option (Int32)) : Nat → Int32 → Option (Int32)
  | 0, _ => none
  | n + 1, x1 =>
    (gI 2 6 M x0).bind fun v1 =>
    if v1 ≤ x1 then
      k57 x1
    else
      if 60 ≤ x1 then
        k57 x1
      else
        if 9 ≤ x1 then
          k49 x1
        else
          (gR 2 5 M x0).bind fun v2 =>
          (aI M v2 x1).bind fun v3 =>
          (fX2_isSignCode M v3).bind fun w4 =>
          if w4 = 0 then
            k49 x1
          else
            if x1 = 0 then
              (gR 2 5 M x0).bind fun v5 =>
              (aI M v5 x1).bind fun v6 =>
              if v6 = 48 then
                k49 x1
              else
                fX2_errorPlace_2 M x0 k49 k57 n (x1 + 1)
            else
              fX2_errorPlace_2 M x0 k49 k57 n (x1 + 1)
def fX2_errorPlace (M : Mem) (a0 : Option Nat) : Option (Int32) :=
  fX2_errorPlace_2 M a0
    (fun x7 =>
      some x7)
    (fun x8 =>
      (gI 2 6 M a0).bind fun v9 =>
      some v9)
    FU 0
def fX2_firstError (M : Mem) (a0 : Option Nat) : Option (Int32) :=
  (ck 2 M a0).bind fun _ =>
  (fX2_errorPlace M a0).bind fun w1 =>
  some w1
def fX2_signOfCode (M : Mem) (a0 : Int32) : Option (Int32) :=
  some (if a0 = 43 then 1 else (if a0 = 45 then (-1) else 0))
def fX2_load_48 (x0 : Option Nat) (x1 : Int32) (x2 : Option Nat) (k91 : Mem → Int32 → Option (Mem × (String ⊕ Int32))) : Nat → Mem → Int32 → Option (Mem × (String ⊕ Int32))
  | 0, _, _ => none
  | n + 1, M, x3 =>
    if 9 ≤ x3 then
      k91 M x3
    else
      (gI 2 6 M x0).bind fun v10 =>
      if v10 ≤ x3 then
        (wI M x2 x3 0).bind fun M11 =>
        fX2_load_48 x0 x1 x2 k91 n M11 (x3 + 1)
      else
        (gR 2 5 M x0).bind fun v12 =>
        (gI 2 6 M x0).bind fun v13 =>
        (aI M v12 ((v13 - 1) - x3)).bind fun v14 =>
        (fX2_signOfCode M v14).bind fun w15 =>
        (wI M x2 x3 w15).bind fun M16 =>
        fX2_load_48 x0 x1 x2 k91 n M16 (x3 + 1)
def fX2_load (M : Mem) (a0 : Option Nat) (a1 : Int32) : Option (Mem × (String ⊕ Int32)) :=
  (fX2_checkNumber M a1).bind fun w1 =>
  thrE w1 (fun E => some (M, .inl E)) fun v2 =>
  (gI 2 6 M a0).bind fun v3 =>
  if v3 = 0 then
    some (M, .inl "java/lang/IllegalArgumentException")
  else
    (ck 2 M a0).bind fun _ =>
    (fX2_errorPlace M a0).bind fun w4 =>
    (gI 2 6 M a0).bind fun v5 =>
    if v5 ≤ w4 then
      (ck 2 M a0).bind fun _ =>
      (fX2_save M a0).bind fun w6 =>
      (gR 2 0 w6 a0).bind fun v7 =>
      (gR 1 0 w6 v7).bind fun v8 =>
      (aR 9 w6 v8 a1).bind fun v9 =>
      fX2_load_48 a0 a1 v9
        (fun M17 x18 =>
          (pI 2 6 M17 a0 0).bind fun M19 =>
          (fX2_degreeOf M19 v9).bind fun w20 =>
          some (M19, .inr w20))
        FU w6 0
    else
      some (M, .inl "java/lang/IllegalArgumentException")
def fX2_checkSlot (M : Mem) (a0 : Int32) : Option (String ⊕ Unit) :=
  if a0 < 0 then
    some (.inl "java/lang/IllegalArgumentException")
  else
    if a0 < 2 then
      some (.inr ())
    else
      some (.inl "java/lang/IllegalArgumentException")
def fX2_degreesTogether_4 (M : Mem) (x0 : Option Nat) (k30 : Int32 → Int32 → Option (Int32)) : Nat → Int32 → Int32 → Option (Int32)
  | 0, _, _ => none
  | n + 1, x1, x2 =>
    if 5 ≤ x2 then
      k30 x1 x2
    else
      (gR 2 0 M x0).bind fun v1 =>
      (gR 1 0 M v1).bind fun v2 =>
      (aR 9 M v2 x2).bind fun v3 =>
      (fX2_degreeOf M v3).bind fun w4 =>
      fX2_degreesTogether_4 M x0 k30 n (x1 + w4) (x2 + 1)
def fX2_degreesTogether (M : Mem) (a0 : Option Nat) : Option (Int32) :=
  fX2_degreesTogether_4 M a0
    (fun x5 x6 =>
      some x5)
    FU 0 0
def fX2_keep (M : Mem) (a0 : Option Nat) (a1 : Int32) : Option (Mem × (String ⊕ Int32)) :=
  (fX2_checkSlot M a1).bind fun w1 =>
  thrE w1 (fun E => some (M, .inl E)) fun v2 =>
  (gR 2 3 M a0).bind fun v3 =>
  (aR 8 M v3 a1).bind fun v4 =>
  (gR 2 0 M a0).bind fun v5 =>
  (ck 1 M v4).bind fun _ =>
  (fX1_takeOver M v4 v5).bind fun w6 =>
  (gR 2 4 w6 a0).bind fun v7 =>
  (wZ w6 v7 a1 1).bind fun M8 =>
  (ck 2 M8 a0).bind fun _ =>
  (fX2_degreesTogether M8 a0).bind fun w9 =>
  some (M8, .inr w9)
def fX2_goBack (M : Mem) (a0 : Option Nat) (a1 : Int32) : Option (Mem × (String ⊕ Int32)) :=
  (fX2_checkSlot M a1).bind fun w1 =>
  thrE w1 (fun E => some (M, .inl E)) fun v2 =>
  (gR 2 4 M a0).bind fun v3 =>
  (aZ M v3 a1).bind fun v4 =>
  if v4 = 0 then
    some (M, .inl "java/lang/IllegalStateException")
  else
    (ck 2 M a0).bind fun _ =>
    (fX2_save M a0).bind fun w5 =>
    (gR 2 0 w5 a0).bind fun v6 =>
    (gR 2 3 w5 a0).bind fun v7 =>
    (aR 8 w5 v7 a1).bind fun v8 =>
    (ck 1 w5 v6).bind fun _ =>
    (fX1_takeOver w5 v6 v8).bind fun w9 =>
    (ck 2 w9 a0).bind fun _ =>
    (fX2_degreesTogether w9 a0).bind fun w10 =>
    some (w9, .inr w10)
def fX2_undo (M : Mem) (a0 : Option Nat) : Option (Mem × (String ⊕ Int32)) :=
  (gI 2 2 M a0).bind fun v1 =>
  if 0 < v1 then
    (gI 2 2 M a0).bind fun v2 =>
    (pI 2 2 M a0 (v2 - 1)).bind fun M3 =>
    (gR 2 0 M3 a0).bind fun v4 =>
    (gR 2 1 M3 a0).bind fun v5 =>
    (gI 2 2 M3 a0).bind fun v6 =>
    (aR 8 M3 v5 v6).bind fun v7 =>
    (ck 1 M3 v4).bind fun _ =>
    (fX1_takeOver M3 v4 v7).bind fun w8 =>
    (gI 2 2 w8 a0).bind fun v9 =>
    some (w8, .inr v9)
  else
    some (M, .inl "java/lang/IllegalStateException")
def fX2_sign (M : Mem) (a0 : Option Nat) (a1 : Int32) (a2 : Int32) : Option (String ⊕ Int32) :=
  (fX2_checkNumber M a1).bind fun w1 =>
  thrE w1 (fun E => some (.inl E)) fun v2 =>
  (fX2_checkPower M a2).bind fun w3 =>
  thrE w3 (fun E => some (.inl E)) fun v4 =>
  (gR 2 0 M a0).bind fun v5 =>
  (gR 1 0 M v5).bind fun v6 =>
  (aR 9 M v6 a1).bind fun v7 =>
  (aI M v7 a2).bind fun v8 =>
  some (.inr v8)
def fX2_checkWhat (M : Mem) (a0 : Int32) (a1 : Int32) : Option (String ⊕ Unit) :=
  if a0 < 0 then
    some (.inl "java/lang/IllegalArgumentException")
  else
    if a0 < a1 then
      some (.inr ())
    else
      some (.inl "java/lang/IllegalArgumentException")
def fX2_formOf_5 (M : Mem) (x0 : Option Nat) (k25 : Int32 → Int32 → Option (Int32)) : Nat → Int32 → Int32 → Option (Int32)
  | 0, _, _ => none
  | n + 1, x1, x2 =>
    if x2 < 0 then
      k25 x1 x2
    else
      (aI M x0 x2).bind fun v1 =>
      fX2_formOf_5 M x0 k25 n (((3 * x1) + v1) + 1) (x2 + (-1))
def fX2_formOf (M : Mem) (a0 : Option Nat) : Option (Int32) :=
  fX2_formOf_5 M a0
    (fun x2 x3 =>
      some x2)
    FU 0 8
def fX2_of (M : Mem) (a0 : Option Nat) (a1 : Int32) (a2 : Int32) : Option (String ⊕ Int32) :=
  (fX2_checkNumber M a1).bind fun w1 =>
  thrE w1 (fun E => some (.inl E)) fun v2 =>
  (fX2_checkWhat M a2 4).bind fun w3 =>
  thrE w3 (fun E => some (.inl E)) fun v4 =>
  (gR 2 0 M a0).bind fun v5 =>
  (gR 1 0 M v5).bind fun v6 =>
  (aR 9 M v6 a1).bind fun v7 =>
  if a2 = 0 then
    (fX2_degreeOf M v7).bind fun w9 =>
    some (.inr w9)
  else
    if a2 = 1 then
      (fX2_notZero M v7).bind fun w10 =>
      some (.inr w10)
    else
      if a2 = 2 then
        (fX2_changesOf M v7 1).bind fun w11 =>
        some (.inr w11)
      else
        (fX2_formOf M v7).bind fun w8 =>
        some (.inr w8)
def fX2_hasRoot_4 (M : Mem) (x0 : Option Nat) (x1 : Int32) (k31 : Int32 → Int32 → Option (Int32)) : Nat → Int32 → Int32 → Option (Int32)
  | 0, _, _ => none
  | n + 1, x2, x3 =>
    if 9 ≤ x3 then
      k31 x2 x3
    else
      (aI M x0 x3).bind fun v1 =>
      (fX2_powerOf M x1 x3).bind fun w2 =>
      (fX2_markOf M (v1 * w2)).bind fun w3 =>
      fX2_hasRoot_4 M x0 x1 k31 n (x2 ||| w3) (x3 + 1)
def fX2_hasRoot (M : Mem) (a0 : Option Nat) (a1 : Int32) : Option (Int32) :=
  fX2_hasRoot_4 M a0 a1
    (fun x4 x5 =>
      (fX2_holds M x4 0).bind fun w6 =>
      some w6)
    FU 0 0
def fX2_isRoot (M : Mem) (a0 : Option Nat) (a1 : Int32) (a2 : Int32) : Option (String ⊕ Int32) :=
  (fX2_checkNumber M a1).bind fun w1 =>
  thrE w1 (fun E => some (.inl E)) fun v2 =>
  (fX2_checkSign M a2).bind fun w3 =>
  thrE w3 (fun E => some (.inl E)) fun v4 =>
  (gR 2 0 M a0).bind fun v5 =>
  (gR 1 0 M v5).bind fun v6 =>
  (aR 9 M v6 a1).bind fun v7 =>
  (fX2_hasRoot M v7 a2).bind fun w8 =>
  some (.inr (if w8 = 0 then 0 else 1))
def fX2_times (M : Mem) (a0 : Option Nat) (a1 : Int32) (a2 : Int32) (a3 : Int32) : Option (Mem × (String ⊕ Int32)) :=
  (fX2_checkNumber M a1).bind fun w1 =>
  thrE w1 (fun E => some (M, .inl E)) fun v2 =>
  (fX2_checkSign M a2).bind fun w3 =>
  thrE w3 (fun E => some (M, .inl E)) fun v4 =>
  (fX2_checkWhat M a3 2).bind fun w5 =>
  thrE w5 (fun E => some (M, .inl E)) fun v6 =>
  (gR 2 0 M a0).bind fun v7 =>
  (gR 1 0 M v7).bind fun v8 =>
  (aR 9 M v8 a1).bind fun v9 =>
  if a3 = 0 then
    (gR 2 8 M a0).bind fun v10 =>
    (fX2_tryQuotients M v9 a2 v10 0).bind fun w11 =>
    some (w11.1, .inr w11.2)
  else
    (fX2_countedTimes M v9 a2).bind fun w12 =>
    some (M, .inr w12)
def fX2_quotientsOf_19 (x0 : Option Nat) (x1 : Option Nat) (x2 : Int32) (x3 : Option Nat) (k43 : Mem → Int32 → Int32 → Option (Mem × Int32)) : Nat → Mem → Int32 → Int32 → Option (Mem × Int32)
  | 0, _, _, _ => none
  | n + 1, M, x4, x5 =>
    if 1000000 ≤ x5 then
      k43 M x4 x5
    else
      (ck 0 M x3).bind fun _ =>
      (fX0_advance M x3).bind fun w4 =>
      if w4.2 = 0 then
        k43 w4.1 x4 x5
      else
        fX2_quotientsOf_19 x0 x1 x2 x3 k43 n w4.1 (x4 + 1) (x5 + 1)
def fX2_quotientsOf (M : Mem) (a0 : Option Nat) (a1 : Option Nat) (a2 : Int32) : Option (Mem × Int32) :=
  (gR 2 8 M a0).bind fun v1 =>
  (aR 7 M v1 0).bind fun v2 =>
  (ck 0 M v2).bind fun _ =>
  (fX0_start M v2 a1 a2).bind fun w3 =>
  fX2_quotientsOf_19 a0 a1 a2 v2
    (fun M5 x6 x7 =>
      some (M5, x6))
    FU w3 0 0
def fX2_quotients (M : Mem) (a0 : Option Nat) (a1 : Int32) (a2 : Int32) : Option (Mem × (String ⊕ Int32)) :=
  (fX2_checkNumber M a1).bind fun w1 =>
  thrE w1 (fun E => some (M, .inl E)) fun v2 =>
  (fX2_checkSign M a2).bind fun w3 =>
  thrE w3 (fun E => some (M, .inl E)) fun v4 =>
  (gR 2 0 M a0).bind fun v5 =>
  (gR 1 0 M v5).bind fun v6 =>
  (aR 9 M v6 a1).bind fun v7 =>
  (ck 2 M a0).bind fun _ =>
  (fX2_quotientsOf M a0 v7 a2).bind fun w8 =>
  some (w8.1, .inr w8.2)
def fX2_bestForm (M : Mem) (a0 : Option Nat) (a1 : Int32) : Option (Int32) :=
  if a1 = 0 then
    some (-9)
  else
    (gR 2 8 M a0).bind fun v1 =>
    (aR 7 M v1 0).bind fun v2 =>
    (gR 0 2 M v2).bind fun v3 =>
    (fX2_formOf M v3).bind fun w4 =>
    some w4
def fX2_best (M : Mem) (a0 : Option Nat) (a1 : Int32) (a2 : Int32) : Option (Mem × (String ⊕ Int32)) :=
  (fX2_checkNumber M a1).bind fun w1 =>
  thrE w1 (fun E => some (M, .inl E)) fun v2 =>
  (fX2_checkSign M a2).bind fun w3 =>
  thrE w3 (fun E => some (M, .inl E)) fun v4 =>
  (gR 2 0 M a0).bind fun v5 =>
  (gR 1 0 M v5).bind fun v6 =>
  (aR 9 M v6 a1).bind fun v7 =>
  (gR 2 8 M a0).bind fun v8 =>
  (fX2_tryQuotients M v7 a2 v8 0).bind fun w9 =>
  (ck 2 w9.1 a0).bind fun _ =>
  (fX2_bestForm w9.1 a0 w9.2).bind fun w10 =>
  some (w9.1, .inr w10)
def fX2_isTooHigh (M : Mem) (a0 : Option Nat) (a1 : Option Nat) (a2 : Int32) : Option (Int32) :=
  if a2 = 1 then
    (fX2_degreeOf M a0).bind fun w1 =>
    (fX2_degreeOf M a1).bind fun w2 =>
    some (if (w1 + w2) ≤ 8 then 0 else 1)
  else
    some 0
def fX2_sumMarks (M : Mem) (a0 : Option Nat) (a1 : Option Nat) (a2 : Int32) : Option (Int32) :=
  (aI M a0 a2).bind fun v1 =>
  (fX2_markOf M v1).bind fun w2 =>
  (aI M a1 a2).bind fun v3 =>
  (fX2_markOf M v3).bind fun w4 =>
  some (w2 ||| w4)
def fX2_productMarks_5 (M : Mem) (x0 : Option Nat) (x1 : Option Nat) (x2 : Int32) (k34 : Int32 → Int32 → Option (Int32)) : Nat → Int32 → Int32 → Option (Int32)
  | 0, _, _ => none
  | n + 1, x3, x4 =>
    if x2 < x4 then
      k34 x3 x4
    else
      (aI M x0 x4).bind fun v1 =>
      (aI M x1 (x2 - x4)).bind fun v2 =>
      (fX2_markOf M (v1 * v2)).bind fun w3 =>
      fX2_productMarks_5 M x0 x1 x2 k34 n (x3 ||| w3) (x4 + 1)
def fX2_productMarks (M : Mem) (a0 : Option Nat) (a1 : Option Nat) (a2 : Int32) : Option (Int32) :=
  fX2_productMarks_5 M a0 a1 a2
    (fun x4 x5 =>
      some x4)
    FU 0 0
def fX2_marksAt (M : Mem) (a0 : Option Nat) (a1 : Option Nat) (a2 : Int32) (a3 : Int32) : Option (Int32) :=
  if a2 = 0 then
    (fX2_sumMarks M a0 a1 a3).bind fun w1 =>
    some w1
  else
    (fX2_productMarks M a0 a1 a3).bind fun w2 =>
    some w2
def fX2_rowsOf_17 (M : Mem) (x0 : Option Nat) (x1 : Option Nat) (x2 : Int32) (k46 : Int32 → Int32 → Option (Int32)) : Nat → Int32 → Int32 → Option (Int32)
  | 0, _, _ => none
  | n + 1, x3, x4 =>
    if 9 ≤ x4 then
      k46 x3 x4
    else
      (fX2_marksAt M x0 x1 x2 x4).bind fun w2 =>
      fX2_rowsOf_17 M x0 x1 x2 k46 n (if w2 = 3 then x3 * 3 else x3) (x4 + 1)
def fX2_rowsOf (M : Mem) (a0 : Option Nat) (a1 : Option Nat) (a2 : Int32) : Option (Int32) :=
  (fX2_isTooHigh M a0 a1 a2).bind fun w1 =>
  if w1 = 0 then
    fX2_rowsOf_17 M a0 a1 a2
      (fun x4 x5 =>
        some x4)
      FU 1 0
  else
    some (-9)
def fX2_many (M : Mem) (a0 : Option Nat) (a1 : Int32) (a2 : Int32) (a3 : Int32) : Option (String ⊕ Int32) :=
  (fX2_checkNumber M a1).bind fun w1 =>
  thrE w1 (fun E => some (.inl E)) fun v2 =>
  (fX2_checkNumber M a2).bind fun w3 =>
  thrE w3 (fun E => some (.inl E)) fun v4 =>
  (fX2_checkWhat M a3 2).bind fun w5 =>
  thrE w5 (fun E => some (.inl E)) fun v6 =>
  (gR 2 0 M a0).bind fun v7 =>
  (gR 1 0 M v7).bind fun v8 =>
  (aR 9 M v8 a1).bind fun v9 =>
  (gR 2 0 M a0).bind fun v10 =>
  (gR 1 0 M v10).bind fun v11 =>
  (aR 9 M v11 a2).bind fun v12 =>
  (fX2_rowsOf M v9 v12 a3).bind fun w13 =>
  some (.inr w13)
def fX2_isAmong_14 (M : Mem) (x0 : Option Nat) (x1 : Option Nat) (x2 : Option Nat) (x3 : Int32) (k39 : Int32 → Option (Int32)) (k47 : Int32 → Option (Int32)) : Nat → Int32 → Option (Int32)
  | 0, _ => none
  | n + 1, x4 =>
    if 9 ≤ x4 then
      k47 x4
    else
      (fX2_marksAt M x1 x2 x3 x4).bind fun w2 =>
      (aI M x0 x4).bind fun v3 =>
      (fX2_holds M w2 v3).bind fun w4 =>
      if w4 = 0 then
        k39 x4
      else
        fX2_isAmong_14 M x0 x1 x2 x3 k39 k47 n (x4 + 1)
def fX2_isAmong (M : Mem) (a0 : Option Nat) (a1 : Option Nat) (a2 : Option Nat) (a3 : Int32) : Option (Int32) :=
  (fX2_isTooHigh M a1 a2 a3).bind fun w1 =>
  if w1 = 0 then
    fX2_isAmong_14 M a0 a1 a2 a3
      (fun x5 =>
        some 0)
      (fun x6 =>
        some 1)
      FU 0
  else
    some 0
def fX2_isIn (M : Mem) (a0 : Option Nat) (a1 : Int32) (a2 : Int32) (a3 : Int32) (a4 : Int32) : Option (String ⊕ Int32) :=
  (fX2_checkNumber M a1).bind fun w1 =>
  thrE w1 (fun E => some (.inl E)) fun v2 =>
  (fX2_checkNumber M a2).bind fun w3 =>
  thrE w3 (fun E => some (.inl E)) fun v4 =>
  (fX2_checkNumber M a3).bind fun w5 =>
  thrE w5 (fun E => some (.inl E)) fun v6 =>
  (fX2_checkWhat M a4 2).bind fun w7 =>
  thrE w7 (fun E => some (.inl E)) fun v8 =>
  (gR 2 0 M a0).bind fun v9 =>
  (gR 1 0 M v9).bind fun v10 =>
  (aR 9 M v10 a1).bind fun v11 =>
  (gR 2 0 M a0).bind fun v12 =>
  (gR 1 0 M v12).bind fun v13 =>
  (aR 9 M v13 a2).bind fun v14 =>
  (gR 2 0 M a0).bind fun v15 =>
  (gR 1 0 M v15).bind fun v16 =>
  (aR 9 M v16 a3).bind fun v17 =>
  (fX2_isAmong M v11 v14 v17 a4).bind fun w18 =>
  some (.inr (if w18 = 0 then 0 else 1))
def fX2_coefficient (M : Mem) (a0 : Option Nat) (a1 : Int32) : Option (Mem × (String ⊕ Int64)) :=
  (fX2_checkPower M a1).bind fun w1 =>
  thrE w1 (fun E => some (M, .inl E)) fun v2 =>
  (ck 2 M a0).bind fun _ =>
  (fX2_expandWhole M a0).bind fun w3 =>
  (gR 2 7 w3 a0).bind fun v4 =>
  (aJ w3 v4 a1).bind fun v5 =>
  some (w3, .inr v5)
def fX2_rootsOfSign_4 (M : Mem) (x0 : Option Nat) (x1 : Int32) (k47 : Int32 → Int32 → Option (Int32)) : Nat → Int32 → Int32 → Option (Int32)
  | 0, _, _ => none
  | n + 1, x2, x3 =>
    (gR 2 0 M x0).bind fun v1 =>
    (gI 1 2 M v1).bind fun v2 =>
    if v2 ≤ x3 then
      k47 x2 x3
    else
      if 8 ≤ x3 then
        k47 x2 x3
      else
        (gR 2 0 M x0).bind fun v3 =>
        (gR 1 1 M v3).bind fun v4 =>
        (aI M v4 x3).bind fun v5 =>
        (fX2_signOf M v5.toInt64).bind fun w6 =>
        if w6 = x1 then
          fX2_rootsOfSign_4 M x0 x1 k47 n (x2 + 1) (x3 + 1)
        else
          fX2_rootsOfSign_4 M x0 x1 k47 n x2 (x3 + 1)
def fX2_rootsOfSign (M : Mem) (a0 : Option Nat) (a1 : Int32) : Option (Int32) :=
  fX2_rootsOfSign_4 M a0 a1
    (fun x7 x8 =>
      some x7)
    FU 0 0
def fX2_withRootOne_4 (M : Mem) (x0 : Option Nat) (k34 : Int32 → Int32 → Option (Int32)) : Nat → Int32 → Int32 → Option (Int32)
  | 0, _, _ => none
  | n + 1, x1, x2 =>
    if 5 ≤ x2 then
      k34 x1 x2
    else
      (gR 2 0 M x0).bind fun v1 =>
      (gR 1 0 M v1).bind fun v2 =>
      (aR 9 M v2 x2).bind fun v3 =>
      (fX2_hasRoot M v3 1).bind fun w4 =>
      if w4 = 0 then
        fX2_withRootOne_4 M x0 k34 n x1 (x2 + 1)
      else
        fX2_withRootOne_4 M x0 k34 n (x1 + 1) (x2 + 1)
def fX2_withRootOne (M : Mem) (a0 : Option Nat) : Option (Int32) :=
  fX2_withRootOne_4 M a0
    (fun x5 x6 =>
      some x5)
    FU 0 0
def fX2_count (M : Mem) (a0 : Option Nat) (a1 : Int32) : Option (String ⊕ Int32) :=
  (fX2_checkWhat M a1 8).bind fun w1 =>
  thrE w1 (fun E => some (.inl E)) fun v2 =>
  if a1 = 0 then
    (gR 2 0 M a0).bind fun v4 =>
    (gI 1 2 M v4).bind fun v5 =>
    some (.inr v5)
  else
    if a1 = 1 then
      (ck 2 M a0).bind fun _ =>
      (fX2_rootsOfSign M a0 1).bind fun w6 =>
      some (.inr w6)
    else
      if a1 = 2 then
        (ck 2 M a0).bind fun _ =>
        (fX2_rootsOfSign M a0 (-1)).bind fun w7 =>
        some (.inr w7)
      else
        if a1 = 3 then
          (ck 2 M a0).bind fun _ =>
          (fX2_rootsOfSign M a0 0).bind fun w8 =>
          some (.inr w8)
        else
          if a1 = 4 then
            (gR 2 0 M a0).bind fun v9 =>
            (gI 1 3 M v9).bind fun v10 =>
            some (.inr v10)
          else
            if a1 = 5 then
              (gR 2 0 M a0).bind fun v11 =>
              (gI 1 4 M v11).bind fun v12 =>
              some (.inr v12)
            else
              if a1 = 6 then
                (ck 2 M a0).bind fun _ =>
                (fX2_withRootOne M a0).bind fun w13 =>
                some (.inr w13)
              else
                (gI 2 2 M a0).bind fun v3 =>
                some (.inr v3)
def fX2_shareOf (M : Mem) (a0 : Option Nat) : Option (UInt64) :=
  (fX2_degreeOf M a0).bind fun w1 =>
  if w1 = 0 then
    some FP.dconst1
  else
    (fX2_countedTimes M a0 1).bind fun w2 =>
    (fX2_countedTimes M a0 (-1)).bind fun w3 =>
    (fX2_countedTimes M a0 0).bind fun w4 =>
    chk (n64b (FP.ddiv (FP.i2d ((w2 + w3) + w4)) (FP.i2d w1))) <|
    some (FP.ddiv (FP.i2d ((w2 + w3) + w4)) (FP.i2d w1))
def fX2_takenShare (M : Mem) (a0 : Option Nat) (a1 : Int32) : Option (String ⊕ UInt64) :=
  (fX2_checkNumber M a1).bind fun w1 =>
  thrE w1 (fun E => some (.inl E)) fun v2 =>
  (gR 2 0 M a0).bind fun v3 =>
  (gR 1 0 M v3).bind fun v4 =>
  (aR 9 M v4 a1).bind fun v5 =>
  (fX2_shareOf M v5).bind fun w6 =>
  some (.inr w6)
def fX2_mixed (M : Mem) (a0 : Int64) (a2 : Int64) : Option (Int64) :=
  some ((31 * a0) + a2)
def fX2_bitsOf_18 (M : Mem) (x0 : UInt64) (k50 : UInt64 → Int64 → Int32 → Option (Int64)) : Nat → UInt64 → Int64 → Int32 → Option (Int64)
  | 0, _, _, _ => none
  | n + 1, x2, x4, x6 =>
    if 1023 ≤ x6 then
      k50 x2 x4 x6
    else
      if 0 ≤ (Op.cmpValue (FP.dcmp x2 FP.dconst1) .g) then
        k50 x2 x4 x6
      else
        chk (n64b (FP.dmul x2 (4611686018427387904 : UInt64))) <|
        fX2_bitsOf_18 M x0 k50 n (FP.dmul x2 (4611686018427387904 : UInt64)) (x4 - 1) (x6 + 1)
def fX2_bitsOf (M : Mem) (a0 : UInt64) : Option (Int64) :=
  if 0 < (Op.cmpValue (FP.dcmp a0 FP.dconst0) .g) then
    fX2_bitsOf_18 M a0
      (fun x1 x2 x3 =>
        chk (n64b (FP.dsub x1 FP.dconst1)) <|
        chk (n64b (FP.dmul (FP.dsub x1 FP.dconst1) (4841369599423283200 : UInt64))) <|
        some ((x2 <<< ((52 : Int32).toInt64 &&& 63)) + (FP.d2l (FP.dmul (FP.dsub x1 FP.dconst1) (4841369599423283200 : UInt64)))))
      FU a0 1023 0
  else
    some 0
def fX2_mixedPolynomial_51 (x0 : Option Nat) (x1 : Int64) (x3 : Option Nat) (k76 : Mem → Int64 → Int32 → Option (Mem × Int64)) : Nat → Mem → Int64 → Int32 → Option (Mem × Int64)
  | 0, _, _, _ => none
  | n + 1, M, x4, x6 =>
    if 9 ≤ x6 then
      k76 M x4 x6
    else
      (aI M x3 x6).bind fun v9 =>
      (fX2_mixed M x4 v9.toInt64).bind fun w10 =>
      fX2_mixedPolynomial_51 x0 x1 x3 k76 n M w10 (x6 + 1)
def fX2_mixedPolynomial_79 (x0 : Option Nat) (x1 : Int64) (x3 : Option Nat) (k182 : Mem → Int64 → Int32 → Option (Mem × Int64)) : Nat → Mem → Int64 → Int32 → Option (Mem × Int64)
  | 0, _, _, _ => none
  | n + 1, M, x4, x6 =>
    if 1 < x6 then
      k182 M x4 x6
    else
      (gR 2 8 M x0).bind fun v14 =>
      (fX2_tryQuotients M x3 x6 v14 0).bind fun w15 =>
      (ck 2 w15.1 x0).bind fun _ =>
      (fX2_bestForm w15.1 x0 w15.2).bind fun w16 =>
      (fX2_hasRoot w15.1 x3 x6).bind fun w17 =>
      (fX2_mixed w15.1 x4 (if w17 = 0 then 0 else 1)).bind fun w18 =>
      (fX2_mixed w15.1 w18 w15.2.toInt64).bind fun w19 =>
      (fX2_countedTimes w15.1 x3 x6).bind fun w20 =>
      (fX2_mixed w15.1 w19 w20.toInt64).bind fun w21 =>
      (ck 2 w15.1 x0).bind fun _ =>
      (fX2_quotientsOf w15.1 x0 x3 x6).bind fun w22 =>
      (fX2_mixed w22.1 w21 w22.2.toInt64).bind fun w23 =>
      (fX2_mixed w22.1 w23 w16.toInt64).bind fun w24 =>
      fX2_mixedPolynomial_79 x0 x1 x3 k182 n w22.1 w24 (x6 + 1)
def fX2_mixedPolynomial (M : Mem) (a0 : Option Nat) (a1 : Int64) (a3 : Option Nat) : Option (Mem × Int64) :=
  (fX2_degreeOf M a3).bind fun w1 =>
  (fX2_mixed M a1 w1.toInt64).bind fun w2 =>
  (fX2_notZero M a3).bind fun w3 =>
  (fX2_mixed M w2 w3.toInt64).bind fun w4 =>
  (fX2_changesOf M a3 1).bind fun w5 =>
  (fX2_mixed M w4 w5.toInt64).bind fun w6 =>
  (fX2_formOf M a3).bind fun w7 =>
  (fX2_mixed M w6 w7.toInt64).bind fun w8 =>
  fX2_mixedPolynomial_51 a0 a1 a3
    (fun M11 x12 x13 =>
      fX2_mixedPolynomial_79 a0 a1 a3
        (fun M26 x27 x28 =>
          (fX2_shareOf M26 a3).bind fun w29 =>
          (fX2_bitsOf M26 w29).bind fun w30 =>
          (fX2_mixed M26 x27 w30).bind fun w31 =>
          some (M26, w31))
        FU M11 x12 (-1))
    FU M w8 0
def fX2_mixedPairs_14 (M : Mem) (x0 : Option Nat) (x1 : Int64) (x5 : Int32) (k86 : Int64 → Int32 → Option (Int64)) : Nat → Int64 → Int32 → Option (Int64)
  | 0, _, _ => none
  | n + 1, x3, x6 =>
    if 5 ≤ x6 then
      k86 x3 x6
    else
      (gR 2 0 M x0).bind fun v1 =>
      (gR 1 0 M v1).bind fun v2 =>
      (aR 9 M v2 x5).bind fun v3 =>
      (gR 2 0 M x0).bind fun v4 =>
      (gR 1 0 M v4).bind fun v5 =>
      (aR 9 M v5 x6).bind fun v6 =>
      (fX2_rowsOf M v3 v6 0).bind fun w7 =>
      (fX2_mixed M x3 w7.toInt64).bind fun w8 =>
      (gR 2 0 M x0).bind fun v9 =>
      (gR 1 0 M v9).bind fun v10 =>
      (aR 9 M v10 x5).bind fun v11 =>
      (gR 2 0 M x0).bind fun v12 =>
      (gR 1 0 M v12).bind fun v13 =>
      (aR 9 M v13 x6).bind fun v14 =>
      (fX2_rowsOf M v11 v14 1).bind fun w15 =>
      (fX2_mixed M w8 w15.toInt64).bind fun w16 =>
      fX2_mixedPairs_14 M x0 x1 x5 k86 n w16 (x6 + 1)
def fX2_mixedPairs_5 (M : Mem) (x0 : Option Nat) (x1 : Int64) (k92 : Int64 → Int32 → Option (Int64)) : Nat → Int64 → Int32 → Option (Int64)
  | 0, _, _ => none
  | n + 1, x3, x5 =>
    if 5 ≤ x5 then
      k92 x3 x5
    else
      fX2_mixedPairs_14 M x0 x1 x5
        (fun x17 x18 =>
          fX2_mixedPairs_5 M x0 x1 k92 n x17 (x5 + 1))
        FU x3 0
def fX2_mixedPairs (M : Mem) (a0 : Option Nat) (a1 : Int64) : Option (Int64) :=
  fX2_mixedPairs_5 M a0 a1
    (fun x19 x20 =>
      some x19)
    FU a1 0
def fX2_mixedWhole_9 (x0 : Option Nat) (x1 : Int64) (k34 : Mem → Int64 → Int32 → Option (Mem × Int64)) : Nat → Mem → Int64 → Int32 → Option (Mem × Int64)
  | 0, _, _, _ => none
  | n + 1, M, x3, x5 =>
    if 9 ≤ x5 then
      k34 M x3 x5
    else
      (gR 2 7 M x0).bind fun v2 =>
      (aJ M v2 x5).bind fun v3 =>
      (fX2_mixed M x3 v3).bind fun w4 =>
      fX2_mixedWhole_9 x0 x1 k34 n M w4 (x5 + 1)
def fX2_mixedWhole_37 (x0 : Option Nat) (x1 : Int64) (k78 : Mem → Int64 → Int32 → Option (Mem × Int64)) : Nat → Mem → Int64 → Int32 → Option (Mem × Int64)
  | 0, _, _, _ => none
  | n + 1, M, x3, x5 =>
    (gR 2 0 M x0).bind fun v8 =>
    (gI 1 2 M v8).bind fun v9 =>
    if v9 ≤ x5 then
      k78 M x3 x5
    else
      if 8 ≤ x5 then
        k78 M x3 x5
      else
        (gR 2 0 M x0).bind fun v10 =>
        (gR 1 1 M v10).bind fun v11 =>
        (aI M v11 x5).bind fun v12 =>
        (fX2_mixed M x3 v12.toInt64).bind fun w13 =>
        fX2_mixedWhole_37 x0 x1 k78 n M w13 (x5 + 1)
def fX2_mixedWhole (M : Mem) (a0 : Option Nat) (a1 : Int64) : Option (Mem × Int64) :=
  (ck 2 M a0).bind fun _ =>
  (fX2_expandWhole M a0).bind fun w1 =>
  fX2_mixedWhole_9 a0 a1
    (fun M5 x6 x7 =>
      fX2_mixedWhole_37 a0 a1
        (fun M14 x15 x16 =>
          some (M14, x15))
        FU M5 x6 0)
    FU w1 a1 0
def fX2_mixedTexts_5 (M : Mem) (x0 : Option Nat) (x1 : Int64) (k37 : Int64 → Int32 → Option (Int64)) : Nat → Int64 → Int32 → Option (Int64)
  | 0, _, _ => none
  | n + 1, x3, x5 =>
    if 2 ≤ x5 then
      k37 x3 x5
    else
      (gR 2 4 M x0).bind fun v1 =>
      (aZ M v1 x5).bind fun v2 =>
      (fX2_mixed M x3 (if v2 = 0 then 0 else 1)).bind fun w3 =>
      fX2_mixedTexts_5 M x0 x1 k37 n w3 (x5 + 1)
def fX2_mixedTexts_50 (M : Mem) (x0 : Option Nat) (x1 : Int64) (k85 : Int64 → Int32 → Option (Int64)) : Nat → Int64 → Int32 → Option (Int64)
  | 0, _, _ => none
  | n + 1, x3, x5 =>
    (gI 2 6 M x0).bind fun v9 =>
    if v9 ≤ x5 then
      k85 x3 x5
    else
      if 60 ≤ x5 then
        k85 x3 x5
      else
        (gR 2 5 M x0).bind fun v10 =>
        (aI M v10 x5).bind fun v11 =>
        (fX2_mixed M x3 v11.toInt64).bind fun w12 =>
        fX2_mixedTexts_50 M x0 x1 k85 n w12 (x5 + 1)
def fX2_mixedTexts (M : Mem) (a0 : Option Nat) (a1 : Int64) : Option (Int64) :=
  fX2_mixedTexts_5 M a0 a1
    (fun x5 x6 =>
      (gI 2 6 M a0).bind fun v7 =>
      (fX2_mixed M x5 v7.toInt64).bind fun w8 =>
      fX2_mixedTexts_50 M a0 a1
        (fun x13 x14 =>
          some x13)
        FU w8 0)
    FU a1 0
def fX2_digest_6 (x0 : Option Nat) (k29 : Mem → Int64 → Int32 → Option (Mem × Int64)) : Nat → Mem → Int64 → Int32 → Option (Mem × Int64)
  | 0, _, _, _ => none
  | n + 1, M, x1, x3 =>
    if 8 ≤ x3 then
      k29 M x1 x3
    else
      (ck 2 M x0).bind fun _ =>
      (fX2_count M x0 x3).bind fun w1 =>
      thrE w1 (fun _ => none) fun v2 =>
      (fX2_mixed M x1 v2.toInt64).bind fun w3 =>
      fX2_digest_6 x0 k29 n M w3 (x3 + 1)
def fX2_digest_31 (x0 : Option Nat) (k57 : Mem → Int64 → Int32 → Option (Mem × Int64)) : Nat → Mem → Int64 → Int32 → Option (Mem × Int64)
  | 0, _, _, _ => none
  | n + 1, M, x1, x3 =>
    if 5 ≤ x3 then
      k57 M x1 x3
    else
      (gR 2 0 M x0).bind fun v7 =>
      (gR 1 0 M v7).bind fun v8 =>
      (aR 9 M v8 x3).bind fun v9 =>
      (ck 2 M x0).bind fun _ =>
      (fX2_mixedPolynomial M x0 x1 v9).bind fun w10 =>
      fX2_digest_31 x0 k57 n w10.1 w10.2 (x3 + 1)
def fX2_digest (M : Mem) (a0 : Option Nat) : Option (Mem × Int64) :=
  fX2_digest_6 a0
    (fun M4 x5 x6 =>
      fX2_digest_31 a0
        (fun M11 x12 x13 =>
          (ck 2 M11 a0).bind fun _ =>
          (fX2_mixedPairs M11 a0 x12).bind fun w14 =>
          (ck 2 M11 a0).bind fun _ =>
          (fX2_mixedWhole M11 a0 w14).bind fun w15 =>
          (ck 2 w15.1 a0).bind fun _ =>
          (fX2_mixedTexts w15.1 a0 w15.2).bind fun w16 =>
          some (w15.1, w16))
        FU M4 x5 0)
    FU M 3623 0
def fX3_thrown (M : Mem) (a0 : Option Nat) : Option (Int32) :=
  (gI 3 0 M a0).bind fun v1 =>
  some v1
def fX3_in (M : Mem) (a0 : Int32) (a1 : Int32) (a2 : Int32) : Option (Int32) :=
  some (if a0 < a1 then 0 else (if a2 < a0 then 0 else 1))
def fX3_fails (M : Mem) (a0 : Option Nat) (a1 : Int32) : Option (Mem × Int32) :=
  (pI 3 0 M a0 a1).bind fun M1 =>
  some (M1, 0)
def fX3_isPoly (M : Mem) (a0 : Int32) : Option (Int32) :=
  (fX3_in M a0 0 4).bind fun w1 =>
  some w1
def fX3_isSign (M : Mem) (a0 : Int32) : Option (Int32) :=
  (fX3_in M a0 (-1) 1).bind fun w1 =>
  some w1
def fX3_signAt (M : Mem) (a0 : Option Nat) (a1 : Int32) (a2 : Int32) : Option (Int32) :=
  if a2 < 0 then
    some 0
  else
    if a2 < 9 then
      (gR 3 1 M a0).bind fun v1 =>
      (aI M v1 ((0 + (9 * a1)) + a2)).bind fun v2 =>
      some v2
    else
      some 0
def fX3_degree_4 (M : Mem) (x0 : Option Nat) (x1 : Int32) (k31 : Int32 → Int32 → Option (Int32)) : Nat → Int32 → Int32 → Option (Int32)
  | 0, _, _ => none
  | n + 1, x2, x3 =>
    if 9 ≤ x3 then
      k31 x2 x3
    else
      (ck 3 M x0).bind fun _ =>
      (fX3_signAt M x0 x1 x3).bind fun w1 =>
      fX3_degree_4 M x0 x1 k31 n (if w1 = 0 then x2 else x3) (x3 + 1)
def fX3_degree (M : Mem) (a0 : Option Nat) (a1 : Int32) : Option (Int32) :=
  fX3_degree_4 M a0 a1
    (fun x3 x4 =>
      some x3)
    FU 0 0
def fX3_saves_11 (x0 : Option Nat) (k39 : Mem → Int32 → Option (Mem)) : Nat → Mem → Int32 → Option (Mem)
  | 0, _, _ => none
  | n + 1, M, x1 =>
    if 280 ≤ x1 then
      k39 M x1
    else
      (gR 3 2 M x0).bind fun v2 =>
      (gR 3 2 M x0).bind fun v3 =>
      (aI M v3 (x1 + 56)).bind fun v4 =>
      (wI M v2 x1 v4).bind fun M5 =>
      fX3_saves_11 x0 k39 n M5 (x1 + 1)
def fX3_saves_51 (x0 : Option Nat) (k83 : Mem → Int32 → Option (Mem)) : Nat → Mem → Int32 → Option (Mem)
  | 0, _, _ => none
  | n + 1, M, x1 =>
    if 56 ≤ x1 then
      k83 M x1
    else
      (gR 3 2 M x0).bind fun v10 =>
      (gI 3 3 M x0).bind fun v11 =>
      (gR 3 1 M x0).bind fun v12 =>
      (aI M v12 x1).bind fun v13 =>
      (wI M v10 ((56 * v11) + x1) v13).bind fun M14 =>
      fX3_saves_51 x0 k83 n M14 (x1 + 1)
def fX3_saves (M : Mem) (a0 : Option Nat) : Option (Mem) :=
  (gI 3 3 M a0).bind fun v1 =>
  if v1 = 6 then
    fX3_saves_11 a0
      (fun M6 x7 =>
        (gI 3 3 M6 a0).bind fun v8 =>
        (pI 3 3 M6 a0 (v8 - 1)).bind fun M9 =>
        fX3_saves_51 a0
          (fun M15 x16 =>
            (gI 3 3 M15 a0).bind fun v17 =>
            (pI 3 3 M15 a0 (v17 + 1)).bind fun M18 =>
            some M18)
          FU M9 0)
      FU M 0
  else
    fX3_saves_51 a0
      (fun M24 x25 =>
        (gI 3 3 M24 a0).bind fun v26 =>
        (pI 3 3 M24 a0 (v26 + 1)).bind fun M27 =>
        some M27)
      FU M 0
def fX3_refuses (M : Mem) (a0 : Option Nat) (a1 : Int32) : Option (Mem × Int32) :=
  (gR 3 1 M a0).bind fun v1 =>
  (aI M v1 55).bind fun v2 =>
  (wI M v1 55 (v2 + 1)).bind fun M3 =>
  some (M3, a1)
def fX3_isInSum (M : Mem) (a0 : Int32) (a1 : Int32) (a2 : Int32) : Option (Int32) :=
  some (if a1 = 0 then (if a1 = 0 then (if a0 = a2 then 1 else 0) else (if a0 = a1 then 1 else 0)) else (if a1 = (-a2) then 1 else (if a1 = 0 then (if a0 = a2 then 1 else 0) else (if a0 = a1 then 1 else 0))))
def fX3_changes_8 (M : Mem) (x0 : Option Nat) (x1 : Int32) (x2 : Int32) (k111 : Int32 → Int32 → Int32 → Option (Int32)) : Nat → Int32 → Int32 → Int32 → Option (Int32)
  | 0, _, _, _ => none
  | n + 1, x3, x4, x5 =>
    if x1 < x5 then
      k111 x3 x4 x5
    else
      if 0 ≤ x2 then
        (aI M x0 x5).bind fun v1 =>
        fX3_changes_8 M x0 x1 x2 k111 n ((x3 + (if x2 = 0 then 0 else (if v1 = 0 then 0 else (if x4 = 0 then 0 else (if v1 = x4 then 0 else 1))))) + (if x2 = 0 then (if v1 = 0 then (if x4 = 0 then 1 else 0) else 0) else 0)) (if v1 = 0 then x4 else v1) (x5 + 1)
      else
        if (x5 - x5 / 2 * 2) = 1 then
          (aI M x0 x5).bind fun v10 =>
          fX3_changes_8 M x0 x1 x2 k111 n ((x3 + (if x2 = 0 then 0 else (if (-v10) = 0 then 0 else (if x4 = 0 then 0 else (if (-v10) = x4 then 0 else 1))))) + (if x2 = 0 then (if (-v10) = 0 then (if x4 = 0 then 1 else 0) else 0) else 0)) (if (-v10) = 0 then x4 else -v10) (x5 + 1)
        else
          (aI M x0 x5).bind fun v19 =>
          fX3_changes_8 M x0 x1 x2 k111 n ((x3 + (if x2 = 0 then 0 else (if v19 = 0 then 0 else (if x4 = 0 then 0 else (if v19 = x4 then 0 else 1))))) + (if x2 = 0 then (if v19 = 0 then (if x4 = 0 then 1 else 0) else 0) else 0)) (if v19 = 0 then x4 else v19) (x5 + 1)
def fX3_changes (M : Mem) (a0 : Option Nat) (a1 : Int32) (a2 : Int32) : Option (Int32) :=
  fX3_changes_8 M a0 a1 a2
    (fun x28 x29 x30 =>
      some x28)
    FU 0 0 0
def fX3_often_2 (x0 : Option Nat) (x1 : Int32) (x2 : Int32) (k26 : Mem → Int32 → Option (Mem × Int32)) : Nat → Mem → Int32 → Option (Mem × Int32)
  | 0, _, _ => none
  | n + 1, M, x3 =>
    if 9 ≤ x3 then
      k26 M x3
    else
      (gR 3 8 M x0).bind fun v1 =>
      (ck 3 M x0).bind fun _ =>
      (fX3_signAt M x0 x1 x3).bind fun w2 =>
      (wI M v1 x3 w2).bind fun M3 =>
      fX3_often_2 x0 x1 x2 k26 n M3 (x3 + 1)
def fX3_often (M : Mem) (a0 : Option Nat) (a1 : Int32) (a2 : Int32) : Option (Mem × Int32) :=
  fX3_often_2 a0 a1 a2
    (fun M4 x5 =>
      (gR 3 8 M4 a0).bind fun v6 =>
      (ck 3 M4 a0).bind fun _ =>
      (fX3_degree M4 a0 a1).bind fun w7 =>
      (fX3_changes M4 v6 w7 a2).bind fun w8 =>
      some (M4, w8))
    FU M 0
def fX3_laysRow_5 (x0 : Option Nat) (x1 : Int32) (x2 : Int32) (k32 : Mem → Int32 → Int32 → Option (Mem)) : Nat → Mem → Int32 → Int32 → Option (Mem)
  | 0, _, _, _ => none
  | n + 1, M, x3, x4 =>
    if x4 < 0 then
      k32 M x3 x4
    else
      (gR 3 8 M x0).bind fun v1 =>
      (wI M v1 x4 ((x3 - x3 / 3 * 3) - 1)).bind fun M2 =>
      fX3_laysRow_5 x0 x1 x2 k32 n M2 (x3 / 3) (x4 + (-1))
def fX3_laysRow (M : Mem) (a0 : Option Nat) (a1 : Int32) (a2 : Int32) : Option (Mem) :=
  fX3_laysRow_5 a0 a1 a2
    (fun M3 x4 x5 =>
      some M3)
    FU M a1 a2
def fX3_isQuotient_19 (M : Mem) (x0 : Option Nat) (x1 : Int32) (x2 : Int32) (x3 : Int32) (k96 : Int32 → Int32 → Option (Int32)) : Nat → Int32 → Int32 → Option (Int32)
  | 0, _, _ => none
  | n + 1, x4, x5 =>
    if (x3 + 1) < x5 then
      k96 x4 x5
    else
      if x4 = 0 then
        k96 x4 x5
      else
        if x5 = 0 then
          if x5 ≤ x3 then
            (gR 3 8 M x0).bind fun v3 =>
            (aI M v3 x5).bind fun v4 =>
            (ck 3 M x0).bind fun _ =>
            (fX3_signAt M x0 x1 x5).bind fun w5 =>
            (fX3_isInSum M w5 0 ((-x2) * v4)).bind fun w6 =>
            fX3_isQuotient_19 M x0 x1 x2 x3 k96 n w6 (x5 + 1)
          else
            (ck 3 M x0).bind fun _ =>
            (fX3_signAt M x0 x1 x5).bind fun w7 =>
            (fX3_isInSum M w7 0 0).bind fun w8 =>
            fX3_isQuotient_19 M x0 x1 x2 x3 k96 n w8 (x5 + 1)
        else
          (gR 3 8 M x0).bind fun v9 =>
          (aI M v9 (x5 - 1)).bind fun v10 =>
          if x5 ≤ x3 then
            (gR 3 8 M x0).bind fun v11 =>
            (aI M v11 x5).bind fun v12 =>
            (ck 3 M x0).bind fun _ =>
            (fX3_signAt M x0 x1 x5).bind fun w13 =>
            (fX3_isInSum M w13 v10 ((-x2) * v12)).bind fun w14 =>
            fX3_isQuotient_19 M x0 x1 x2 x3 k96 n w14 (x5 + 1)
          else
            (ck 3 M x0).bind fun _ =>
            (fX3_signAt M x0 x1 x5).bind fun w15 =>
            (fX3_isInSum M w15 v10 0).bind fun w16 =>
            fX3_isQuotient_19 M x0 x1 x2 x3 k96 n w16 (x5 + 1)
def fX3_isQuotient (M : Mem) (a0 : Option Nat) (a1 : Int32) (a2 : Int32) (a3 : Int32) : Option (Int32) :=
  (gR 3 8 M a0).bind fun v1 =>
  (aI M v1 a3).bind fun v2 =>
  fX3_isQuotient_19 M a0 a1 a2 a3
    (fun x17 x18 =>
      some x17)
    FU (if v2 = 0 then 0 else 1) 0
def fX3_notes_26 (x0 : Option Nat) (x1 : Int32) (x2 : Int32) (x3 : Int32) (k63 : Mem → Int32 → Option (Mem)) : Nat → Mem → Int32 → Option (Mem)
  | 0, _, _ => none
  | n + 1, M, x4 =>
    if 9 ≤ x4 then
      k63 M x4
    else
      (gR 3 9 M x0).bind fun v5 =>
      if x1 < x4 then
        (wI M v5 x4 0).bind fun M6 =>
        fX3_notes_26 x0 x1 x2 x3 k63 n M6 (x4 + 1)
      else
        (gR 3 8 M x0).bind fun v7 =>
        (aI M v7 x4).bind fun v8 =>
        (wI M v5 x4 v8).bind fun M9 =>
        fX3_notes_26 x0 x1 x2 x3 k63 n M9 (x4 + 1)
def fX3_notes (M : Mem) (a0 : Option Nat) (a1 : Int32) (a2 : Int32) : Option (Mem) :=
  (gR 3 8 M a0).bind fun v1 =>
  (fX3_changes M v1 a1 a2).bind fun w2 =>
  (gI 3 10 M a0).bind fun v3 =>
  if w2 ≤ v3 then
    some M
  else
    (pI 3 10 M a0 w2).bind fun M4 =>
    fX3_notes_26 a0 a1 a2 w2
      (fun M10 x11 =>
        some M10)
      FU M4 0
def fX3_divides_14 (x0 : Option Nat) (x1 : Int32) (x2 : Int32) (x3 : Int32) (k32 : Mem → Int32 → Int32 → Option (Mem × Int32)) : Nat → Mem → Int32 → Int32 → Option (Mem × Int32)
  | 0, _, _, _ => none
  | n + 1, M, x4, x5 =>
    if x3 < x5 then
      k32 M x4 x5
    else
      fX3_divides_14 x0 x1 x2 x3 k32 n M (x4 * 3) (x5 + 1)
def fX3_divides_44 (x0 : Option Nat) (x1 : Int32) (x2 : Int32) (x3 : Int32) (x4 : Int32) (k87 : Mem → Int32 → Int32 → Option (Mem × Int32)) : Nat → Mem → Int32 → Int32 → Option (Mem × Int32)
  | 0, _, _, _ => none
  | n + 1, M, x5, x6 =>
    if x4 ≤ x6 then
      k87 M x5 x6
    else
      if x3 < 0 then
        k87 M x5 x6
      else
        (ck 3 M x0).bind fun _ =>
        (fX3_laysRow M x0 x6 x3).bind fun w6 =>
        (ck 3 w6 x0).bind fun _ =>
        (fX3_isQuotient w6 x0 x1 x2 x3).bind fun w7 =>
        if w7 = 0 then
          fX3_divides_44 x0 x1 x2 x3 x4 k87 n w6 x5 (x6 + 1)
        else
          (ck 3 w6 x0).bind fun _ =>
          (fX3_notes w6 x0 x3 x2).bind fun w8 =>
          fX3_divides_44 x0 x1 x2 x3 x4 k87 n w8 (x5 + 1) (x6 + 1)
def fX3_divides (M : Mem) (a0 : Option Nat) (a1 : Int32) (a2 : Int32) : Option (Mem × Int32) :=
  (ck 3 M a0).bind fun _ =>
  (fX3_degree M a0 a1).bind fun w1 =>
  fX3_divides_14 a0 a1 a2 (w1 - 1)
    (fun M2 x3 x4 =>
      (pI 3 10 M2 a0 (-9)).bind fun M5 =>
      fX3_divides_44 a0 a1 a2 (w1 - 1) x3
        (fun M9 x10 x11 =>
          some (M9, x10))
        FU M5 0 0)
    FU M 1 0
def fX3_form_5 (M : Mem) (x0 : Option Nat) (k25 : Int32 → Int32 → Option (Int32)) : Nat → Int32 → Int32 → Option (Int32)
  | 0, _, _ => none
  | n + 1, x1, x2 =>
    if x2 < 0 then
      k25 x1 x2
    else
      (aI M x0 x2).bind fun v1 =>
      fX3_form_5 M x0 k25 n (((3 * x1) + v1) + 1) (x2 + (-1))
def fX3_form (M : Mem) (a0 : Option Nat) : Option (Int32) :=
  fX3_form_5 M a0
    (fun x2 x3 =>
      some x2)
    FU 0 8
def fX3_put (M : Mem) (a0 : Option Nat) (a1 : Int32) (a2 : Int32) (a3 : Int32) : Option (Mem × Int32) :=
  (pI 3 0 M a0 0).bind fun M1 =>
  (fX3_isPoly M1 a1).bind fun w2 =>
  if w2 = 0 then
    (ck 3 M1 a0).bind fun _ =>
    (fX3_fails M1 a0 1).bind fun w3 =>
    some (w3.1, w3.2)
  else
    (fX3_in M1 a2 0 8).bind fun w4 =>
    if w4 = 0 then
      (ck 3 M1 a0).bind fun _ =>
      (fX3_fails M1 a0 2).bind fun w5 =>
      some (w5.1, w5.2)
    else
      (fX3_isSign M1 a3).bind fun w6 =>
      if w6 = 0 then
        (ck 3 M1 a0).bind fun _ =>
        (fX3_fails M1 a0 2).bind fun w7 =>
        some (w7.1, w7.2)
      else
        (ck 3 M1 a0).bind fun _ =>
        (fX3_saves M1 a0).bind fun w8 =>
        (gR 3 1 w8 a0).bind fun v9 =>
        (aI w8 v9 ((0 + (9 * a1)) + a2)).bind fun v10 =>
        (gR 3 1 w8 a0).bind fun v11 =>
        (wI w8 v11 ((0 + (9 * a1)) + a2) a3).bind fun M12 =>
        (ck 3 M12 a0).bind fun _ =>
        (fX3_degree M12 a0 a1).bind fun w13 =>
        (ck 3 M12 a0).bind fun _ =>
        (fX3_signAt M12 a0 a1 w13).bind fun w14 =>
        if w14 = 0 then
          (gR 3 1 M12 a0).bind fun v15 =>
          (wI M12 v15 ((0 + (9 * a1)) + a2) v10).bind fun M16 =>
          (ck 3 M16 a0).bind fun _ =>
          (fX3_refuses M16 a0 (-9)).bind fun w17 =>
          some (w17.1, w17.2)
        else
          (ck 3 M12 a0).bind fun _ =>
          (fX3_degree M12 a0 a1).bind fun w18 =>
          some (M12, w18)
def fX3_copy_31 (x0 : Option Nat) (x1 : Int32) (x2 : Int32) (k69 : Mem → Int32 → Option (Mem × Int32)) : Nat → Mem → Int32 → Option (Mem × Int32)
  | 0, _, _ => none
  | n + 1, M, x3 =>
    if 9 ≤ x3 then
      k69 M x3
    else
      (gR 3 1 M x0).bind fun v7 =>
      (gR 3 1 M x0).bind fun v8 =>
      (aI M v8 ((0 + (9 * x1)) + x3)).bind fun v9 =>
      (wI M v7 ((0 + (9 * x2)) + x3) v9).bind fun M10 =>
      fX3_copy_31 x0 x1 x2 k69 n M10 (x3 + 1)
def fX3_copy (M : Mem) (a0 : Option Nat) (a1 : Int32) (a2 : Int32) : Option (Mem × Int32) :=
  (pI 3 0 M a0 0).bind fun M1 =>
  (fX3_isPoly M1 a1).bind fun w2 =>
  if w2 = 0 then
    (ck 3 M1 a0).bind fun _ =>
    (fX3_fails M1 a0 1).bind fun w3 =>
    some (w3.1, w3.2)
  else
    (fX3_isPoly M1 a2).bind fun w4 =>
    if w4 = 0 then
      (ck 3 M1 a0).bind fun _ =>
      (fX3_fails M1 a0 1).bind fun w5 =>
      some (w5.1, w5.2)
    else
      (ck 3 M1 a0).bind fun _ =>
      (fX3_saves M1 a0).bind fun w6 =>
      fX3_copy_31 a0 a1 a2
        (fun M11 x12 =>
          (ck 3 M11 a0).bind fun _ =>
          (fX3_degree M11 a0 a2).bind fun w13 =>
          some (M11, w13))
        FU w6 0
def fX3_divide_53 (x0 : Option Nat) (x1 : Int32) (x2 : Int32) (k84 : Mem → Int32 → Option (Mem × Int32)) : Nat → Mem → Int32 → Option (Mem × Int32)
  | 0, _, _ => none
  | n + 1, M, x3 =>
    if 9 ≤ x3 then
      k84 M x3
    else
      (gR 3 1 M x0).bind fun v9 =>
      (gR 3 9 M x0).bind fun v10 =>
      (aI M v10 x3).bind fun v11 =>
      (wI M v9 ((0 + (9 * x1)) + x3) v11).bind fun M12 =>
      fX3_divide_53 x0 x1 x2 k84 n M12 (x3 + 1)
def fX3_divide (M : Mem) (a0 : Option Nat) (a1 : Int32) (a2 : Int32) : Option (Mem × Int32) :=
  (pI 3 0 M a0 0).bind fun M1 =>
  (fX3_isPoly M1 a1).bind fun w2 =>
  if w2 = 0 then
    (ck 3 M1 a0).bind fun _ =>
    (fX3_fails M1 a0 1).bind fun w3 =>
    some (w3.1, w3.2)
  else
    (fX3_isSign M1 a2).bind fun w4 =>
    if w4 = 0 then
      (ck 3 M1 a0).bind fun _ =>
      (fX3_fails M1 a0 2).bind fun w5 =>
      some (w5.1, w5.2)
    else
      (ck 3 M1 a0).bind fun _ =>
      (fX3_saves M1 a0).bind fun w6 =>
      (ck 3 w6 a0).bind fun _ =>
      (fX3_divides w6 a0 a1 a2).bind fun w7 =>
      if w7.2 = 0 then
        (ck 3 w7.1 a0).bind fun _ =>
        (fX3_refuses w7.1 a0 (-9)).bind fun w8 =>
        some (w8.1, w8.2)
      else
        fX3_divide_53 a0 a1 a2
          (fun M13 x14 =>
            (gR 3 1 M13 a0).bind fun v15 =>
            (aI M13 v15 54).bind fun v16 =>
            (wI M13 v15 54 (v16 + 1)).bind fun M17 =>
            (ck 3 M17 a0).bind fun _ =>
            (fX3_degree M17 a0 a1).bind fun w18 =>
            some (M17, w18))
          FU w7.1 0
def fX3_root (M : Mem) (a0 : Option Nat) (a1 : Int32) : Option (Mem × Int32) :=
  (pI 3 0 M a0 0).bind fun M1 =>
  (fX3_in M1 a1 (-9) 9).bind fun w2 =>
  if w2 = 0 then
    (ck 3 M1 a0).bind fun _ =>
    (fX3_fails M1 a0 1).bind fun w3 =>
    some (w3.1, w3.2)
  else
    (ck 3 M1 a0).bind fun _ =>
    (fX3_saves M1 a0).bind fun w4 =>
    (gR 3 1 w4 a0).bind fun v5 =>
    (aI w4 v5 45).bind fun v6 =>
    if v6 = 8 then
      (ck 3 w4 a0).bind fun _ =>
      (fX3_refuses w4 a0 (-9)).bind fun w7 =>
      some (w7.1, w7.2)
    else
      (gR 3 1 w4 a0).bind fun v8 =>
      (gR 3 1 w4 a0).bind fun v9 =>
      (aI w4 v9 45).bind fun v10 =>
      (wI w4 v8 (46 + v10) a1).bind fun M11 =>
      (gR 3 1 M11 a0).bind fun v12 =>
      (aI M11 v12 45).bind fun v13 =>
      (wI M11 v12 45 (v13 + 1)).bind fun M14 =>
      (gR 3 1 M14 a0).bind fun v15 =>
      (aI M14 v15 45).bind fun v16 =>
      some (M14, v16)
def fX3_unroot (M : Mem) (a0 : Option Nat) : Option (Mem × Int32) :=
  (pI 3 0 M a0 0).bind fun M1 =>
  (ck 3 M1 a0).bind fun _ =>
  (fX3_saves M1 a0).bind fun w2 =>
  (gR 3 1 w2 a0).bind fun v3 =>
  (aI w2 v3 45).bind fun v4 =>
  if v4 = 0 then
    (ck 3 w2 a0).bind fun _ =>
    (fX3_refuses w2 a0 99).bind fun w5 =>
    some (w5.1, w5.2)
  else
    (gR 3 1 w2 a0).bind fun v6 =>
    (aI w2 v6 45).bind fun v7 =>
    (wI w2 v6 45 (v7 - 1)).bind fun M8 =>
    (gR 3 1 M8 a0).bind fun v9 =>
    (gR 3 1 M8 a0).bind fun v10 =>
    (aI M8 v10 45).bind fun v11 =>
    (aI M8 v9 (46 + v11)).bind fun v12 =>
    (gR 3 1 M8 a0).bind fun v13 =>
    (gR 3 1 M8 a0).bind fun v14 =>
    (aI M8 v14 45).bind fun v15 =>
    (wI M8 v13 (46 + v15) 0).bind fun M16 =>
    some (M16, v12)
def fX3_multiplies_2 (x0 : Option Nat) (k21 : Mem → Int32 → Option (Mem)) : Nat → Mem → Int32 → Option (Mem)
  | 0, _, _ => none
  | n + 1, M, x1 =>
    if 9 ≤ x1 then
      k21 M x1
    else
      (gR 3 11 M x0).bind fun v1 =>
      (wJ M v1 x1 0).bind fun M2 =>
      fX3_multiplies_2 x0 k21 n M2 (x1 + 1)
def fX3_multiplies_44 (x0 : Option Nat) (x1 : Int32) (k94 : Mem → Int32 → Option (Mem)) : Nat → Mem → Int32 → Option (Mem)
  | 0, _, _ => none
  | n + 1, M, x2 =>
    if x2 < 0 then
      k94 M x2
    else
      (gR 3 11 M x0).bind fun v9 =>
      if x2 = 0 then
        (gR 3 1 M x0).bind fun v10 =>
        (aI M v10 (46 + x1)).bind fun v11 =>
        (gR 3 11 M x0).bind fun v12 =>
        (aJ M v12 x2).bind fun v13 =>
        (wJ M v9 x2 (0 - (v11.toInt64 * v13))).bind fun M14 =>
        fX3_multiplies_44 x0 x1 k94 n M14 (x2 + (-1))
      else
        (gR 3 11 M x0).bind fun v15 =>
        (aJ M v15 (x2 - 1)).bind fun v16 =>
        (gR 3 1 M x0).bind fun v17 =>
        (aI M v17 (46 + x1)).bind fun v18 =>
        (gR 3 11 M x0).bind fun v19 =>
        (aJ M v19 x2).bind fun v20 =>
        (wJ M v9 x2 (v16 - (v18.toInt64 * v20))).bind fun M21 =>
        fX3_multiplies_44 x0 x1 k94 n M21 (x2 + (-1))
def fX3_multiplies_30 (x0 : Option Nat) (k100 : Mem → Int32 → Option (Mem)) : Nat → Mem → Int32 → Option (Mem)
  | 0, _, _ => none
  | n + 1, M, x1 =>
    (gR 3 1 M x0).bind fun v7 =>
    (aI M v7 45).bind fun v8 =>
    if v8 ≤ x1 then
      k100 M x1
    else
      fX3_multiplies_44 x0 x1
        (fun M22 x23 =>
          fX3_multiplies_30 x0 k100 n M22 (x1 + 1))
        FU M 8
def fX3_multiplies (M : Mem) (a0 : Option Nat) : Option (Mem) :=
  fX3_multiplies_2 a0
    (fun M3 x4 =>
      (gR 3 11 M3 a0).bind fun v5 =>
      (wJ M3 v5 0 1).bind fun M6 =>
      fX3_multiplies_30 a0
        (fun M24 x25 =>
          some M24)
        FU M6 0)
    FU M 0
def fX3_lower_28 (x0 : Option Nat) (x1 : Int32) (k84 : Mem → Int32 → Option (Mem × Int32)) : Nat → Mem → Int32 → Option (Mem × Int32)
  | 0, _, _ => none
  | n + 1, M, x2 =>
    if 9 ≤ x2 then
      k84 M x2
    else
      (gR 3 1 M x0).bind fun v6 =>
      (gR 3 11 M x0).bind fun v7 =>
      (aJ M v7 x2).bind fun v8 =>
      if (lg_cmp v8 0) ≤ 0 then
        (gR 3 11 M x0).bind fun v9 =>
        (aJ M v9 x2).bind fun v10 =>
        (wI M v6 ((0 + (9 * x1)) + x2) (if 0 ≤ (lg_cmp v10 0) then 0 else (-1))).bind fun M11 =>
        fX3_lower_28 x0 x1 k84 n M11 (x2 + 1)
      else
        (wI M v6 ((0 + (9 * x1)) + x2) 1).bind fun M13 =>
        fX3_lower_28 x0 x1 k84 n M13 (x2 + 1)
def fX3_lower (M : Mem) (a0 : Option Nat) (a1 : Int32) : Option (Mem × Int32) :=
  (pI 3 0 M a0 0).bind fun M1 =>
  (fX3_isPoly M1 a1).bind fun w2 =>
  if w2 = 0 then
    (ck 3 M1 a0).bind fun _ =>
    (fX3_fails M1 a0 1).bind fun w3 =>
    some (w3.1, w3.2)
  else
    (ck 3 M1 a0).bind fun _ =>
    (fX3_saves M1 a0).bind fun w4 =>
    (ck 3 w4 a0).bind fun _ =>
    (fX3_multiplies w4 a0).bind fun w5 =>
    fX3_lower_28 a0 a1
      (fun M14 x15 =>
        (ck 3 M14 a0).bind fun _ =>
        (fX3_degree M14 a0 a1).bind fun w16 =>
        some (M14, w16))
      FU w5 0
def fX3_append (M : Mem) (a0 : Option Nat) (a1 : Int32) : Option (Mem × Int32) :=
  (pI 3 0 M a0 0).bind fun M1 =>
  (fX3_in M1 a1 33 126).bind fun w2 =>
  if w2 = 0 then
    (ck 3 M1 a0).bind fun _ =>
    (fX3_fails M1 a0 1).bind fun w3 =>
    some (w3.1, w3.2)
  else
    (gI 3 7 M1 a0).bind fun v4 =>
    if v4 = 60 then
      (ck 3 M1 a0).bind fun _ =>
      (fX3_fails M1 a0 2).bind fun w5 =>
      some (w5.1, w5.2)
    else
      (gR 3 6 M1 a0).bind fun v6 =>
      (gI 3 7 M1 a0).bind fun v7 =>
      (wI M1 v6 v7 a1).bind fun M8 =>
      (gI 3 7 M8 a0).bind fun v9 =>
      (pI 3 7 M8 a0 (v9 + 1)).bind fun M10 =>
      (gI 3 7 M10 a0).bind fun v11 =>
      some (M10, v11)
def fX3_clearBuffer (M : Mem) (a0 : Option Nat) : Option (Mem × Int32) :=
  (pI 3 0 M a0 0).bind fun M1 =>
  (gI 3 7 M1 a0).bind fun v2 =>
  (pI 3 7 M1 a0 0).bind fun M3 =>
  some (M3, v2)
def fX3_error_4 (M : Mem) (x0 : Option Nat) (k80 : Int32 → Int32 → Option (Int32)) : Nat → Int32 → Int32 → Option (Int32)
  | 0, _, _ => none
  | n + 1, x1, x2 =>
    (gI 3 7 M x0).bind fun v1 =>
    if v1 ≤ x1 then
      k80 x1 x2
    else
      if x2 = 0 then
        k80 x1 x2
      else
        if 9 ≤ x1 then
          fX3_error_4 M x0 k80 n (x1 + 0) 0
        else
          (gR 3 6 M x0).bind fun v2 =>
          (aI M v2 x1).bind fun v3 =>
          if v3 = 43 then
            fX3_error_4 M x0 k80 n (x1 + 1) 1
          else
            (gR 3 6 M x0).bind fun v4 =>
            (aI M v4 x1).bind fun v5 =>
            if v5 = 45 then
              fX3_error_4 M x0 k80 n (x1 + 1) 1
            else
              (gR 3 6 M x0).bind fun v6 =>
              (aI M v6 x1).bind fun v7 =>
              fX3_error_4 M x0 k80 n (x1 + (if (if v7 = 48 then (if x1 ≤ 0 then 0 else 1) else 0) = 0 then 0 else 1)) (if v7 = 48 then (if x1 ≤ 0 then 0 else 1) else 0)
def fX3_error (M : Mem) (a0 : Option Nat) : Option (Int32) :=
  fX3_error_4 M a0
    (fun x11 x12 =>
      some x11)
    FU 0 1
def fX3_firstError (M : Mem) (a0 : Option Nat) : Option (Mem × Int32) :=
  (pI 3 0 M a0 0).bind fun M1 =>
  (ck 3 M1 a0).bind fun _ =>
  (fX3_error M1 a0).bind fun w2 =>
  some (M1, w2)
def fX3_load_48 (x0 : Option Nat) (x1 : Int32) (k121 : Mem → Int32 → Option (Mem × Int32)) : Nat → Mem → Int32 → Option (Mem × Int32)
  | 0, _, _ => none
  | n + 1, M, x2 =>
    if 9 ≤ x2 then
      k121 M x2
    else
      (gI 3 7 M x0).bind fun v9 =>
      if v9 ≤ x2 then
        (gR 3 1 M x0).bind fun v10 =>
        (wI M v10 ((0 + (9 * x1)) + x2) 0).bind fun M11 =>
        fX3_load_48 x0 x1 k121 n M11 (x2 + 1)
      else
        (gR 3 6 M x0).bind fun v12 =>
        (gI 3 7 M x0).bind fun v13 =>
        (aI M v12 ((v13 - 1) - x2)).bind fun v14 =>
        (gR 3 1 M x0).bind fun v15 =>
        (wI M v15 ((0 + (9 * x1)) + x2) (if v14 = 43 then 1 else (if v14 = 45 then (-1) else 0))).bind fun M16 =>
        fX3_load_48 x0 x1 k121 n M16 (x2 + 1)
def fX3_load (M : Mem) (a0 : Option Nat) (a1 : Int32) : Option (Mem × Int32) :=
  (pI 3 0 M a0 0).bind fun M1 =>
  (fX3_isPoly M1 a1).bind fun w2 =>
  if w2 = 0 then
    (ck 3 M1 a0).bind fun _ =>
    (fX3_fails M1 a0 1).bind fun w3 =>
    some (w3.1, w3.2)
  else
    (gI 3 7 M1 a0).bind fun v4 =>
    if v4 = 0 then
      (ck 3 M1 a0).bind fun _ =>
      (fX3_fails M1 a0 2).bind fun w5 =>
      some (w5.1, w5.2)
    else
      (ck 3 M1 a0).bind fun _ =>
      (fX3_error M1 a0).bind fun w6 =>
      (gI 3 7 M1 a0).bind fun v7 =>
      if v7 ≤ w6 then
        (ck 3 M1 a0).bind fun _ =>
        (fX3_saves M1 a0).bind fun w8 =>
        fX3_load_48 a0 a1
          (fun M19 x20 =>
            (pI 3 7 M19 a0 0).bind fun M21 =>
            (ck 3 M21 a0).bind fun _ =>
            (fX3_degree M21 a0 a1).bind fun w22 =>
            some (M21, w22))
          FU w8 0
      else
        (ck 3 M1 a0).bind fun _ =>
        (fX3_fails M1 a0 2).bind fun w23 =>
        some (w23.1, w23.2)
def fX3_degrees_4 (M : Mem) (x0 : Option Nat) (k23 : Int32 → Int32 → Option (Int32)) : Nat → Int32 → Int32 → Option (Int32)
  | 0, _, _ => none
  | n + 1, x1, x2 =>
    if 5 ≤ x2 then
      k23 x1 x2
    else
      (ck 3 M x0).bind fun _ =>
      (fX3_degree M x0 x2).bind fun w1 =>
      fX3_degrees_4 M x0 k23 n (x1 + w1) (x2 + 1)
def fX3_degrees (M : Mem) (a0 : Option Nat) : Option (Int32) :=
  fX3_degrees_4 M a0
    (fun x2 x3 =>
      some x2)
    FU 0 0
def fX3_keep_22 (x0 : Option Nat) (x1 : Int32) (k51 : Mem → Int32 → Option (Mem × Int32)) : Nat → Mem → Int32 → Option (Mem × Int32)
  | 0, _, _ => none
  | n + 1, M, x2 =>
    if 56 ≤ x2 then
      k51 M x2
    else
      (gR 3 4 M x0).bind fun v4 =>
      (gR 3 1 M x0).bind fun v5 =>
      (aI M v5 x2).bind fun v6 =>
      (wI M v4 ((56 * x1) + x2) v6).bind fun M7 =>
      fX3_keep_22 x0 x1 k51 n M7 (x2 + 1)
def fX3_keep (M : Mem) (a0 : Option Nat) (a1 : Int32) : Option (Mem × Int32) :=
  (pI 3 0 M a0 0).bind fun M1 =>
  (fX3_in M1 a1 0 1).bind fun w2 =>
  if w2 = 0 then
    (ck 3 M1 a0).bind fun _ =>
    (fX3_fails M1 a0 1).bind fun w3 =>
    some (w3.1, w3.2)
  else
    fX3_keep_22 a0 a1
      (fun M8 x9 =>
        (gR 3 5 M8 a0).bind fun v10 =>
        (wZ M8 v10 a1 1).bind fun M11 =>
        (ck 3 M11 a0).bind fun _ =>
        (fX3_degrees M11 a0).bind fun w12 =>
        some (M11, w12))
      FU M1 0
def fX3_goBack_41 (x0 : Option Nat) (x1 : Int32) (k70 : Mem → Int32 → Option (Mem × Int32)) : Nat → Mem → Int32 → Option (Mem × Int32)
  | 0, _, _ => none
  | n + 1, M, x2 =>
    if 56 ≤ x2 then
      k70 M x2
    else
      (gR 3 1 M x0).bind fun v8 =>
      (gR 3 4 M x0).bind fun v9 =>
      (aI M v9 ((56 * x1) + x2)).bind fun v10 =>
      (wI M v8 x2 v10).bind fun M11 =>
      fX3_goBack_41 x0 x1 k70 n M11 (x2 + 1)
def fX3_goBack (M : Mem) (a0 : Option Nat) (a1 : Int32) : Option (Mem × Int32) :=
  (pI 3 0 M a0 0).bind fun M1 =>
  (fX3_in M1 a1 0 1).bind fun w2 =>
  if w2 = 0 then
    (ck 3 M1 a0).bind fun _ =>
    (fX3_fails M1 a0 1).bind fun w3 =>
    some (w3.1, w3.2)
  else
    (gR 3 5 M1 a0).bind fun v4 =>
    (aZ M1 v4 a1).bind fun v5 =>
    if v5 = 0 then
      (ck 3 M1 a0).bind fun _ =>
      (fX3_fails M1 a0 2).bind fun w6 =>
      some (w6.1, w6.2)
    else
      (ck 3 M1 a0).bind fun _ =>
      (fX3_saves M1 a0).bind fun w7 =>
      fX3_goBack_41 a0 a1
        (fun M12 x13 =>
          (ck 3 M12 a0).bind fun _ =>
          (fX3_degrees M12 a0).bind fun w14 =>
          some (M12, w14))
        FU w7 0
def fX3_undo_30 (x0 : Option Nat) (k62 : Mem → Int32 → Option (Mem × Int32)) : Nat → Mem → Int32 → Option (Mem × Int32)
  | 0, _, _ => none
  | n + 1, M, x1 =>
    if 56 ≤ x1 then
      k62 M x1
    else
      (gR 3 1 M x0).bind fun v6 =>
      (gR 3 2 M x0).bind fun v7 =>
      (gI 3 3 M x0).bind fun v8 =>
      (aI M v7 ((56 * v8) + x1)).bind fun v9 =>
      (wI M v6 x1 v9).bind fun M10 =>
      fX3_undo_30 x0 k62 n M10 (x1 + 1)
def fX3_undo (M : Mem) (a0 : Option Nat) : Option (Mem × Int32) :=
  (pI 3 0 M a0 0).bind fun M1 =>
  (gI 3 3 M1 a0).bind fun v2 =>
  if v2 = 0 then
    (ck 3 M1 a0).bind fun _ =>
    (fX3_fails M1 a0 1).bind fun w3 =>
    some (w3.1, w3.2)
  else
    (gI 3 3 M1 a0).bind fun v4 =>
    (pI 3 3 M1 a0 (v4 - 1)).bind fun M5 =>
    fX3_undo_30 a0
      (fun M11 x12 =>
        (gI 3 3 M11 a0).bind fun v13 =>
        some (M11, v13))
      FU M5 0
def fX3_sign (M : Mem) (a0 : Option Nat) (a1 : Int32) (a2 : Int32) : Option (Mem × Int32) :=
  (pI 3 0 M a0 0).bind fun M1 =>
  (fX3_isPoly M1 a1).bind fun w2 =>
  if w2 = 0 then
    (ck 3 M1 a0).bind fun _ =>
    (fX3_fails M1 a0 1).bind fun w3 =>
    some (w3.1, w3.2)
  else
    (fX3_in M1 a2 0 8).bind fun w4 =>
    if w4 = 0 then
      (ck 3 M1 a0).bind fun _ =>
      (fX3_fails M1 a0 2).bind fun w5 =>
      some (w5.1, w5.2)
    else
      (ck 3 M1 a0).bind fun _ =>
      (fX3_signAt M1 a0 a1 a2).bind fun w6 =>
      some (M1, w6)
def fX3_tells_27 (x0 : Option Nat) (x1 : Int32) (x2 : Int32) (k72 : Mem → Int32 → Int32 → Option (Mem × Int32)) : Nat → Mem → Int32 → Int32 → Option (Mem × Int32)
  | 0, _, _, _ => none
  | n + 1, M, x3, x4 =>
    if 9 ≤ x4 then
      k72 M x3 x4
    else
      (gR 3 8 M x0).bind fun v3 =>
      (ck 3 M x0).bind fun _ =>
      (fX3_signAt M x0 x1 x4).bind fun w4 =>
      (wI M v3 x4 w4).bind fun M5 =>
      (gR 3 8 M5 x0).bind fun v6 =>
      (aI M5 v6 x4).bind fun v7 =>
      fX3_tells_27 x0 x1 x2 k72 n M5 (x3 + (if v7 = 0 then 0 else 1)) (x4 + 1)
def fX3_tells (M : Mem) (a0 : Option Nat) (a1 : Int32) (a2 : Int32) : Option (Mem × Int32) :=
  if a2 = 0 then
    (ck 3 M a0).bind fun _ =>
    (fX3_degree M a0 a1).bind fun w1 =>
    some (M, w1)
  else
    if a2 = 2 then
      (ck 3 M a0).bind fun _ =>
      (fX3_often M a0 a1 1).bind fun w2 =>
      some (w2.1, w2.2)
    else
      fX3_tells_27 a0 a1 a2
        (fun M9 x10 x11 =>
          if a2 = 1 then
            some (M9, x10)
          else
            (gR 3 8 M9 a0).bind fun v12 =>
            (fX3_form M9 v12).bind fun w13 =>
            some (M9, w13))
        FU M 0 0
def fX3_of (M : Mem) (a0 : Option Nat) (a1 : Int32) (a2 : Int32) : Option (Mem × Int32) :=
  (pI 3 0 M a0 0).bind fun M1 =>
  (fX3_isPoly M1 a1).bind fun w2 =>
  if w2 = 0 then
    (ck 3 M1 a0).bind fun _ =>
    (fX3_fails M1 a0 1).bind fun w3 =>
    some (w3.1, w3.2)
  else
    (fX3_in M1 a2 0 3).bind fun w4 =>
    if w4 = 0 then
      (ck 3 M1 a0).bind fun _ =>
      (fX3_fails M1 a0 2).bind fun w5 =>
      some (w5.1, w5.2)
    else
      (ck 3 M1 a0).bind fun _ =>
      (fX3_tells M1 a0 a1 a2).bind fun w6 =>
      some (w6.1, w6.2)
def fX3_has_8 (M : Mem) (x0 : Option Nat) (x1 : Int32) (x2 : Int32) (k98 : Int32 → Int32 → Int32 → Option (Int32)) : Nat → Int32 → Int32 → Int32 → Option (Int32)
  | 0, _, _, _ => none
  | n + 1, x3, x4, x5 =>
    if 9 ≤ x5 then
      k98 x3 x4 x5
    else
      if x2 = 0 then
        if x5 ≤ 0 then
          if 0 ≤ x2 then
            (ck 3 M x0).bind fun _ =>
            (fX3_signAt M x0 x1 x5).bind fun w1 =>
            fX3_has_8 M x0 x1 x2 k98 n (if x3 = 0 then (if w1 ≤ 0 then 0 else 1) else 1) (if x4 = 0 then (if 0 ≤ w1 then 0 else 1) else 1) (x5 + 1)
          else
            if (x5 - x5 / 2 * 2) = 1 then
              (ck 3 M x0).bind fun _ =>
              (fX3_signAt M x0 x1 x5).bind fun w6 =>
              fX3_has_8 M x0 x1 x2 k98 n (if x3 = 0 then (if (-w6) ≤ 0 then 0 else 1) else 1) (if x4 = 0 then (if 0 ≤ (-w6) then 0 else 1) else 1) (x5 + 1)
            else
              (ck 3 M x0).bind fun _ =>
              (fX3_signAt M x0 x1 x5).bind fun w11 =>
              fX3_has_8 M x0 x1 x2 k98 n (if x3 = 0 then (if w11 ≤ 0 then 0 else 1) else 1) (if x4 = 0 then (if 0 ≤ w11 then 0 else 1) else 1) (x5 + 1)
        else
          fX3_has_8 M x0 x1 x2 k98 n (if x3 = 0 then 0 else 1) (if x4 = 0 then 0 else 1) (x5 + 1)
      else
        if 0 ≤ x2 then
          (ck 3 M x0).bind fun _ =>
          (fX3_signAt M x0 x1 x5).bind fun w18 =>
          fX3_has_8 M x0 x1 x2 k98 n (if x3 = 0 then (if w18 ≤ 0 then 0 else 1) else 1) (if x4 = 0 then (if 0 ≤ w18 then 0 else 1) else 1) (x5 + 1)
        else
          if (x5 - x5 / 2 * 2) = 1 then
            (ck 3 M x0).bind fun _ =>
            (fX3_signAt M x0 x1 x5).bind fun w23 =>
            fX3_has_8 M x0 x1 x2 k98 n (if x3 = 0 then (if (-w23) ≤ 0 then 0 else 1) else 1) (if x4 = 0 then (if 0 ≤ (-w23) then 0 else 1) else 1) (x5 + 1)
          else
            (ck 3 M x0).bind fun _ =>
            (fX3_signAt M x0 x1 x5).bind fun w28 =>
            fX3_has_8 M x0 x1 x2 k98 n (if x3 = 0 then (if w28 ≤ 0 then 0 else 1) else 1) (if x4 = 0 then (if 0 ≤ w28 then 0 else 1) else 1) (x5 + 1)
def fX3_has (M : Mem) (a0 : Option Nat) (a1 : Int32) (a2 : Int32) : Option (Int32) :=
  fX3_has_8 M a0 a1 a2
    (fun x33 x34 x35 =>
      some (if x33 = x34 then 1 else 0))
    FU 0 0 0
def fX3_isRoot (M : Mem) (a0 : Option Nat) (a1 : Int32) (a2 : Int32) : Option (Mem × Int32) :=
  (pI 3 0 M a0 0).bind fun M1 =>
  (fX3_isPoly M1 a1).bind fun w2 =>
  if w2 = 0 then
    (ck 3 M1 a0).bind fun _ =>
    (fX3_fails M1 a0 1).bind fun w3 =>
    some (w3.1, w3.2)
  else
    (fX3_isSign M1 a2).bind fun w4 =>
    if w4 = 0 then
      (ck 3 M1 a0).bind fun _ =>
      (fX3_fails M1 a0 2).bind fun w5 =>
      some (w5.1, w5.2)
    else
      (ck 3 M1 a0).bind fun _ =>
      (fX3_has M1 a0 a1 a2).bind fun w6 =>
      some (M1, (if w6 = 0 then 0 else 1))
def fX3_times (M : Mem) (a0 : Option Nat) (a1 : Int32) (a2 : Int32) (a3 : Int32) : Option (Mem × Int32) :=
  (pI 3 0 M a0 0).bind fun M1 =>
  (fX3_isPoly M1 a1).bind fun w2 =>
  if w2 = 0 then
    (ck 3 M1 a0).bind fun _ =>
    (fX3_fails M1 a0 1).bind fun w3 =>
    some (w3.1, w3.2)
  else
    (fX3_isSign M1 a2).bind fun w4 =>
    if w4 = 0 then
      (ck 3 M1 a0).bind fun _ =>
      (fX3_fails M1 a0 2).bind fun w5 =>
      some (w5.1, w5.2)
    else
      (fX3_in M1 a3 0 1).bind fun w6 =>
      if w6 = 0 then
        (ck 3 M1 a0).bind fun _ =>
        (fX3_fails M1 a0 2).bind fun w7 =>
        some (w7.1, w7.2)
      else
        (ck 3 M1 a0).bind fun _ =>
        (fX3_often M1 a0 a1 a2).bind fun w8 =>
        some (w8.1, w8.2)
def fX3_quotients (M : Mem) (a0 : Option Nat) (a1 : Int32) (a2 : Int32) : Option (Mem × Int32) :=
  (pI 3 0 M a0 0).bind fun M1 =>
  (fX3_isPoly M1 a1).bind fun w2 =>
  if w2 = 0 then
    (ck 3 M1 a0).bind fun _ =>
    (fX3_fails M1 a0 1).bind fun w3 =>
    some (w3.1, w3.2)
  else
    (fX3_isSign M1 a2).bind fun w4 =>
    if w4 = 0 then
      (ck 3 M1 a0).bind fun _ =>
      (fX3_fails M1 a0 2).bind fun w5 =>
      some (w5.1, w5.2)
    else
      (ck 3 M1 a0).bind fun _ =>
      (fX3_divides M1 a0 a1 a2).bind fun w6 =>
      some (w6.1, w6.2)
def fX3_bestForm (M : Mem) (a0 : Option Nat) (a1 : Int32) (a2 : Int32) : Option (Mem × Int32) :=
  (ck 3 M a0).bind fun _ =>
  (fX3_divides M a0 a1 a2).bind fun w1 =>
  if w1.2 = 0 then
    some (w1.1, (-9))
  else
    (gR 3 9 w1.1 a0).bind fun v2 =>
    (fX3_form w1.1 v2).bind fun w3 =>
    some (w1.1, w3)
def fX3_best (M : Mem) (a0 : Option Nat) (a1 : Int32) (a2 : Int32) : Option (Mem × Int32) :=
  (pI 3 0 M a0 0).bind fun M1 =>
  (fX3_isPoly M1 a1).bind fun w2 =>
  if w2 = 0 then
    (ck 3 M1 a0).bind fun _ =>
    (fX3_fails M1 a0 1).bind fun w3 =>
    some (w3.1, w3.2)
  else
    (fX3_isSign M1 a2).bind fun w4 =>
    if w4 = 0 then
      (ck 3 M1 a0).bind fun _ =>
      (fX3_fails M1 a0 2).bind fun w5 =>
      some (w5.1, w5.2)
    else
      (ck 3 M1 a0).bind fun _ =>
      (fX3_bestForm M1 a0 a1 a2).bind fun w6 =>
      some (w6.1, w6.2)
def fX3_hasProduct_6 (M : Mem) (x0 : Option Nat) (x1 : Int32) (x2 : Int32) (x3 : Int32) (x4 : Int32) (k52 : Int32 → Int32 → Option (Int32)) : Nat → Int32 → Int32 → Option (Int32)
  | 0, _, _ => none
  | n + 1, x5, x6 =>
    if x3 < x6 then
      k52 x5 x6
    else
      if x5 = 0 then
        (ck 3 M x0).bind fun _ =>
        (fX3_signAt M x0 x1 x6).bind fun w1 =>
        (ck 3 M x0).bind fun _ =>
        (fX3_signAt M x0 x2 (x3 - x6)).bind fun w2 =>
        fX3_hasProduct_6 M x0 x1 x2 x3 x4 k52 n (if (w1 * w2) = x4 then 1 else 0) (x6 + 1)
      else
        fX3_hasProduct_6 M x0 x1 x2 x3 x4 k52 n 1 (x6 + 1)
def fX3_hasProduct (M : Mem) (a0 : Option Nat) (a1 : Int32) (a2 : Int32) (a3 : Int32) (a4 : Int32) : Option (Int32) :=
  fX3_hasProduct_6 M a0 a1 a2 a3 a4
    (fun x4 x5 =>
      some x4)
    FU 0 0
def fX3_isThree (M : Mem) (a0 : Option Nat) (a1 : Int32) (a2 : Int32) (a3 : Int32) (a4 : Int32) : Option (Int32) :=
  if a4 = 0 then
    (ck 3 M a0).bind fun _ =>
    (fX3_signAt M a0 a1 a3).bind fun w1 =>
    (ck 3 M a0).bind fun _ =>
    (fX3_signAt M a0 a2 a3).bind fun w2 =>
    some (if 0 ≤ (w1 * w2) then 0 else 1)
  else
    (ck 3 M a0).bind fun _ =>
    (fX3_hasProduct M a0 a1 a2 a3 1).bind fun w4 =>
    if w4 = 0 then
      some 0
    else
      (ck 3 M a0).bind fun _ =>
      (fX3_hasProduct M a0 a1 a2 a3 (-1)).bind fun w5 =>
      some (if w5 = 0 then 0 else 1)
def fX3_only (M : Mem) (a0 : Option Nat) (a1 : Int32) (a2 : Int32) (a3 : Int32) (a4 : Int32) : Option (Int32) :=
  if a4 = 0 then
    (ck 3 M a0).bind fun _ =>
    (fX3_signAt M a0 a1 a3).bind fun w1 =>
    if w1 = 0 then
      (ck 3 M a0).bind fun _ =>
      (fX3_signAt M a0 a2 a3).bind fun w2 =>
      some w2
    else
      (ck 3 M a0).bind fun _ =>
      (fX3_signAt M a0 a1 a3).bind fun w3 =>
      some w3
  else
    (ck 3 M a0).bind fun _ =>
    (fX3_hasProduct M a0 a1 a2 a3 1).bind fun w4 =>
    if w4 = 0 then
      (ck 3 M a0).bind fun _ =>
      (fX3_hasProduct M a0 a1 a2 a3 (-1)).bind fun w5 =>
      some (if w5 = 0 then 0 else (-1))
    else
      some 1
def fX3_isTooHigh (M : Mem) (a0 : Option Nat) (a1 : Int32) (a2 : Int32) (a3 : Int32) : Option (Int32) :=
  if a3 = 1 then
    (ck 3 M a0).bind fun _ =>
    (fX3_degree M a0 a1).bind fun w1 =>
    (ck 3 M a0).bind fun _ =>
    (fX3_degree M a0 a2).bind fun w2 =>
    some (if (w1 + w2) ≤ 8 then 0 else 1)
  else
    some 0
def fX3_rows_19 (M : Mem) (x0 : Option Nat) (x1 : Int32) (x2 : Int32) (x3 : Int32) (k54 : Int32 → Int32 → Option (Int32)) : Nat → Int32 → Int32 → Option (Int32)
  | 0, _, _ => none
  | n + 1, x4, x5 =>
    if 9 ≤ x5 then
      k54 x4 x5
    else
      (ck 3 M x0).bind fun _ =>
      (fX3_isThree M x0 x1 x2 x5 x3).bind fun w2 =>
      fX3_rows_19 M x0 x1 x2 x3 k54 n (x4 * (if w2 = 0 then 1 else 3)) (x5 + 1)
def fX3_rows (M : Mem) (a0 : Option Nat) (a1 : Int32) (a2 : Int32) (a3 : Int32) : Option (Int32) :=
  (ck 3 M a0).bind fun _ =>
  (fX3_isTooHigh M a0 a1 a2 a3).bind fun w1 =>
  if w1 = 0 then
    fX3_rows_19 M a0 a1 a2 a3
      (fun x4 x5 =>
        some x4)
      FU 1 0
  else
    some (-9)
def fX3_many (M : Mem) (a0 : Option Nat) (a1 : Int32) (a2 : Int32) (a3 : Int32) : Option (Mem × Int32) :=
  (pI 3 0 M a0 0).bind fun M1 =>
  (fX3_isPoly M1 a1).bind fun w2 =>
  if w2 = 0 then
    (ck 3 M1 a0).bind fun _ =>
    (fX3_fails M1 a0 1).bind fun w3 =>
    some (w3.1, w3.2)
  else
    (fX3_isPoly M1 a2).bind fun w4 =>
    if w4 = 0 then
      (ck 3 M1 a0).bind fun _ =>
      (fX3_fails M1 a0 1).bind fun w5 =>
      some (w5.1, w5.2)
    else
      (fX3_in M1 a3 0 1).bind fun w6 =>
      if w6 = 0 then
        (ck 3 M1 a0).bind fun _ =>
        (fX3_fails M1 a0 2).bind fun w7 =>
        some (w7.1, w7.2)
      else
        (ck 3 M1 a0).bind fun _ =>
        (fX3_rows M1 a0 a1 a2 a3).bind fun w8 =>
        some (M1, w8)
def fX3_isAmong_21 (M : Mem) (x0 : Option Nat) (x1 : Int32) (x2 : Int32) (x3 : Int32) (x4 : Int32) (k79 : Int32 → Int32 → Option (Int32)) : Nat → Int32 → Int32 → Option (Int32)
  | 0, _, _ => none
  | n + 1, x5, x6 =>
    if 9 ≤ x6 then
      k79 x5 x6
    else
      if x5 = 0 then
        fX3_isAmong_21 M x0 x1 x2 x3 x4 k79 n 0 (x6 + 1)
      else
        (ck 3 M x0).bind fun _ =>
        (fX3_isThree M x0 x2 x3 x6 x4).bind fun w2 =>
        if w2 = 0 then
          (ck 3 M x0).bind fun _ =>
          (fX3_signAt M x0 x1 x6).bind fun w3 =>
          (ck 3 M x0).bind fun _ =>
          (fX3_only M x0 x2 x3 x6 x4).bind fun w4 =>
          fX3_isAmong_21 M x0 x1 x2 x3 x4 k79 n (if w3 = w4 then 1 else 0) (x6 + 1)
        else
          fX3_isAmong_21 M x0 x1 x2 x3 x4 k79 n 1 (x6 + 1)
def fX3_isAmong (M : Mem) (a0 : Option Nat) (a1 : Int32) (a2 : Int32) (a3 : Int32) (a4 : Int32) : Option (Int32) :=
  (ck 3 M a0).bind fun _ =>
  (fX3_isTooHigh M a0 a2 a3 a4).bind fun w1 =>
  fX3_isAmong_21 M a0 a1 a2 a3 a4
    (fun x6 x7 =>
      some x6)
    FU (if w1 = 0 then 1 else 0) 0
def fX3_isIn (M : Mem) (a0 : Option Nat) (a1 : Int32) (a2 : Int32) (a3 : Int32) (a4 : Int32) : Option (Mem × Int32) :=
  (pI 3 0 M a0 0).bind fun M1 =>
  (fX3_isPoly M1 a1).bind fun w2 =>
  if w2 = 0 then
    (ck 3 M1 a0).bind fun _ =>
    (fX3_fails M1 a0 1).bind fun w3 =>
    some (w3.1, w3.2)
  else
    (fX3_isPoly M1 a2).bind fun w4 =>
    if w4 = 0 then
      (ck 3 M1 a0).bind fun _ =>
      (fX3_fails M1 a0 1).bind fun w5 =>
      some (w5.1, w5.2)
    else
      (fX3_isPoly M1 a3).bind fun w6 =>
      if w6 = 0 then
        (ck 3 M1 a0).bind fun _ =>
        (fX3_fails M1 a0 1).bind fun w7 =>
        some (w7.1, w7.2)
      else
        (fX3_in M1 a4 0 1).bind fun w8 =>
        if w8 = 0 then
          (ck 3 M1 a0).bind fun _ =>
          (fX3_fails M1 a0 2).bind fun w9 =>
          some (w9.1, w9.2)
        else
          (ck 3 M1 a0).bind fun _ =>
          (fX3_isAmong M1 a0 a1 a2 a3 a4).bind fun w10 =>
          some (M1, (if w10 = 0 then 0 else 1))
def fX3_coefficient (M : Mem) (a0 : Option Nat) (a1 : Int32) : Option (Mem × Int64) :=
  (pI 3 0 M a0 0).bind fun M1 =>
  (fX3_in M1 a1 0 8).bind fun w2 =>
  if w2 = 0 then
    (ck 3 M1 a0).bind fun _ =>
    (fX3_fails M1 a0 1).bind fun w3 =>
    some (w3.1, w3.2.toInt64)
  else
    (ck 3 M1 a0).bind fun _ =>
    (fX3_multiplies M1 a0).bind fun w4 =>
    (gR 3 11 w4 a0).bind fun v5 =>
    (aJ w4 v5 a1).bind fun v6 =>
    some (w4, v6)
def fX3_rootsOf_4 (M : Mem) (x0 : Option Nat) (x1 : Int32) (k63 : Int32 → Int32 → Option (Int32)) : Nat → Int32 → Int32 → Option (Int32)
  | 0, _, _ => none
  | n + 1, x2, x3 =>
    (gR 3 1 M x0).bind fun v1 =>
    (aI M v1 45).bind fun v2 =>
    if v2 ≤ x3 then
      k63 x2 x3
    else
      (gR 3 1 M x0).bind fun v3 =>
      (aI M v3 (46 + x3)).bind fun v4 =>
      fX3_rootsOf_4 M x0 x1 k63 n (x2 + (if (if v4 ≤ 0 then (if 0 ≤ v4 then 3 else 2) else 1) = x1 then 1 else 0)) (x3 + 1)
def fX3_rootsOf (M : Mem) (a0 : Option Nat) (a1 : Int32) : Option (Int32) :=
  fX3_rootsOf_4 M a0 a1
    (fun x8 x9 =>
      some x8)
    FU 0 0
def fX3_tellsCount_78 (M : Mem) (x0 : Option Nat) (x1 : Int32) (k106 : Int32 → Int32 → Option (Int32)) : Nat → Int32 → Int32 → Option (Int32)
  | 0, _, _ => none
  | n + 1, x2, x3 =>
    if 5 ≤ x3 then
      k106 x2 x3
    else
      (ck 3 M x0).bind fun _ =>
      (fX3_has M x0 x3 1).bind fun w11 =>
      fX3_tellsCount_78 M x0 x1 k106 n (x2 + (if w11 = 0 then 0 else 1)) (x3 + 1)
def fX3_tellsCount (M : Mem) (a0 : Option Nat) (a1 : Int32) : Option (Int32) :=
  if a1 = 0 then
    (gR 3 1 M a0).bind fun v2 =>
    (aI M v2 45).bind fun v3 =>
    some v3
  else
    if a1 = 1 then
      (ck 3 M a0).bind fun _ =>
      (fX3_rootsOf M a0 a1).bind fun w4 =>
      some w4
    else
      if a1 = 2 then
        (ck 3 M a0).bind fun _ =>
        (fX3_rootsOf M a0 a1).bind fun w5 =>
        some w5
      else
        if a1 = 3 then
          (ck 3 M a0).bind fun _ =>
          (fX3_rootsOf M a0 a1).bind fun w6 =>
          some w6
        else
          if a1 = 4 then
            (gR 3 1 M a0).bind fun v7 =>
            (aI M v7 54).bind fun v8 =>
            some v8
          else
            if a1 = 5 then
              (gR 3 1 M a0).bind fun v9 =>
              (aI M v9 55).bind fun v10 =>
              some v10
            else
              if a1 = 6 then
                fX3_tellsCount_78 M a0 a1
                  (fun x13 x14 =>
                    some x13)
                  FU 0 0
              else
                (gI 3 3 M a0).bind fun v1 =>
                some v1
def fX3_count (M : Mem) (a0 : Option Nat) (a1 : Int32) : Option (Mem × Int32) :=
  (pI 3 0 M a0 0).bind fun M1 =>
  (fX3_in M1 a1 0 7).bind fun w2 =>
  if w2 = 0 then
    (ck 3 M1 a0).bind fun _ =>
    (fX3_fails M1 a0 1).bind fun w3 =>
    some (w3.1, w3.2)
  else
    (ck 3 M1 a0).bind fun _ =>
    (fX3_tellsCount M1 a0 a1).bind fun w4 =>
    some (M1, w4)
def fX3_share (M : Mem) (a0 : Option Nat) (a1 : Int32) : Option (Mem × UInt64) :=
  (ck 3 M a0).bind fun _ =>
  (fX3_often M a0 a1 1).bind fun w1 =>
  (ck 3 w1.1 a0).bind fun _ =>
  (fX3_often w1.1 a0 a1 (-1)).bind fun w2 =>
  (ck 3 w2.1 a0).bind fun _ =>
  (fX3_often w2.1 a0 a1 0).bind fun w3 =>
  (ck 3 w3.1 a0).bind fun _ =>
  (fX3_degree w3.1 a0 a1).bind fun w4 =>
  if w4 = 0 then
    some (w3.1, FP.dconst1)
  else
    (ck 3 w3.1 a0).bind fun _ =>
    (fX3_degree w3.1 a0 a1).bind fun w5 =>
    chk (n64b (FP.ddiv (FP.i2d ((w1.2 + w2.2) + w3.2)) (FP.i2d w5))) <|
    some (w3.1, FP.ddiv (FP.i2d ((w1.2 + w2.2) + w3.2)) (FP.i2d w5))
def fX3_takenShare (M : Mem) (a0 : Option Nat) (a1 : Int32) : Option (Mem × UInt64) :=
  (pI 3 0 M a0 0).bind fun M1 =>
  (fX3_isPoly M1 a1).bind fun w2 =>
  if w2 = 0 then
    (ck 3 M1 a0).bind fun _ =>
    (fX3_fails M1 a0 1).bind fun w3 =>
    some (w3.1, FP.i2d w3.2)
  else
    (ck 3 M1 a0).bind fun _ =>
    (fX3_share M1 a0 a1).bind fun w4 =>
    some (w4.1, w4.2)
def fX3_hashes (M : Mem) (a0 : Option Nat) (a1 : Int64) : Option (Mem) :=
  (gJ 3 12 M a0).bind fun v1 =>
  (pJ 3 12 M a0 ((31 * v1) + a1)).bind fun M2 =>
  some M2
def fJxe99ae_isNaN_b9ae7 (M : Mem) (a0 : UInt64) : Option (Int32) :=
  some (if (Op.cmpValue (FP.dcmp a0 a0) .l) = 0 then 0 else 1)
def fJxe99ae_doubleToLongBits_ccdee (M : Mem) (a0 : UInt64) : Option (Int64) :=
  (fJxe99ae_isNaN_b9ae7 M a0).bind fun w1 =>
  if w1 = 0 then
    some a0.toInt64
  else
    some 9221120237041090560
def fX3_hashesPoly_2 (x0 : Option Nat) (x1 : Int32) (k24 : Mem → Int32 → Option (Mem)) : Nat → Mem → Int32 → Option (Mem)
  | 0, _, _ => none
  | n + 1, M, x2 =>
    if 4 ≤ x2 then
      k24 M x2
    else
      (ck 3 M x0).bind fun _ =>
      (fX3_tells M x0 x1 x2).bind fun w1 =>
      (ck 3 w1.1 x0).bind fun _ =>
      (fX3_hashes w1.1 x0 w1.2.toInt64).bind fun w2 =>
      fX3_hashesPoly_2 x0 x1 k24 n w2 (x2 + 1)
def fX3_hashesPoly_26 (x0 : Option Nat) (x1 : Int32) (k49 : Mem → Int32 → Option (Mem)) : Nat → Mem → Int32 → Option (Mem)
  | 0, _, _ => none
  | n + 1, M, x2 =>
    if 9 ≤ x2 then
      k49 M x2
    else
      (ck 3 M x0).bind fun _ =>
      (fX3_signAt M x0 x1 x2).bind fun w5 =>
      (ck 3 M x0).bind fun _ =>
      (fX3_hashes M x0 w5.toInt64).bind fun w6 =>
      fX3_hashesPoly_26 x0 x1 k49 n w6 (x2 + 1)
def fX3_hashesPoly_51 (x0 : Option Nat) (x1 : Int32) (k137 : Mem → Int32 → Option (Mem)) : Nat → Mem → Int32 → Option (Mem)
  | 0, _, _ => none
  | n + 1, M, x2 =>
    if 2 ≤ x2 then
      k137 M x2
    else
      (ck 3 M x0).bind fun _ =>
      (fX3_has M x0 x1 x2).bind fun w9 =>
      (ck 3 M x0).bind fun _ =>
      (fX3_hashes M x0 (if w9 = 0 then 0 else 1)).bind fun w10 =>
      (ck 3 w10 x0).bind fun _ =>
      (fX3_often w10 x0 x1 x2).bind fun w11 =>
      (ck 3 w11.1 x0).bind fun _ =>
      (fX3_hashes w11.1 x0 w11.2.toInt64).bind fun w12 =>
      (ck 3 w12 x0).bind fun _ =>
      (fX3_often w12 x0 x1 x2).bind fun w13 =>
      (ck 3 w13.1 x0).bind fun _ =>
      (fX3_hashes w13.1 x0 w13.2.toInt64).bind fun w14 =>
      (ck 3 w14 x0).bind fun _ =>
      (fX3_divides w14 x0 x1 x2).bind fun w15 =>
      (ck 3 w15.1 x0).bind fun _ =>
      (fX3_hashes w15.1 x0 w15.2.toInt64).bind fun w16 =>
      if w15.2 = 0 then
        (ck 3 w16 x0).bind fun _ =>
        (fX3_hashes w16 x0 (-9)).bind fun w17 =>
        fX3_hashesPoly_51 x0 x1 k137 n w17 (x2 + 1)
      else
        (gR 3 9 w16 x0).bind fun v18 =>
        (fX3_form w16 v18).bind fun w19 =>
        (ck 3 w16 x0).bind fun _ =>
        (fX3_hashes w16 x0 w19.toInt64).bind fun w20 =>
        fX3_hashesPoly_51 x0 x1 k137 n w20 (x2 + 1)
def fX3_hashesPoly (M : Mem) (a0 : Option Nat) (a1 : Int32) : Option (Mem) :=
  fX3_hashesPoly_2 a0 a1
    (fun M3 x4 =>
      fX3_hashesPoly_26 a0 a1
        (fun M7 x8 =>
          fX3_hashesPoly_51 a0 a1
            (fun M22 x23 =>
              (ck 3 M22 a0).bind fun _ =>
              (fX3_share M22 a0 a1).bind fun w24 =>
              (fJxe99ae_doubleToLongBits_ccdee w24.1 w24.2).bind fun w25 =>
              (ck 3 w24.1 a0).bind fun _ =>
              (fX3_hashes w24.1 a0 w25).bind fun w26 =>
              some w26)
            FU M7 (-1))
        FU M3 0)
    FU M 0
def fX3_digest_14 (x0 : Option Nat) (k36 : Mem → Int32 → Option (Mem × Int64)) : Nat → Mem → Int32 → Option (Mem × Int64)
  | 0, _, _ => none
  | n + 1, M, x1 =>
    if 8 ≤ x1 then
      k36 M x1
    else
      (ck 3 M x0).bind fun _ =>
      (fX3_tellsCount M x0 x1).bind fun w3 =>
      (ck 3 M x0).bind fun _ =>
      (fX3_hashes M x0 w3.toInt64).bind fun w4 =>
      fX3_digest_14 x0 k36 n w4 (x1 + 1)
def fX3_digest_38 (x0 : Option Nat) (k54 : Mem → Int32 → Option (Mem × Int64)) : Nat → Mem → Int32 → Option (Mem × Int64)
  | 0, _, _ => none
  | n + 1, M, x1 =>
    if 5 ≤ x1 then
      k54 M x1
    else
      (ck 3 M x0).bind fun _ =>
      (fX3_hashesPoly M x0 x1).bind fun w7 =>
      fX3_digest_38 x0 k54 n w7 (x1 + 1)
def fX3_digest_56 (x0 : Option Nat) (k100 : Mem → Int32 → Option (Mem × Int64)) : Nat → Mem → Int32 → Option (Mem × Int64)
  | 0, _, _ => none
  | n + 1, M, x1 =>
    if 25 ≤ x1 then
      k100 M x1
    else
      (ck 3 M x0).bind fun _ =>
      (fX3_rows M x0 (x1 / 5) (x1 - x1 / 5 * 5) 0).bind fun w10 =>
      (ck 3 M x0).bind fun _ =>
      (fX3_hashes M x0 w10.toInt64).bind fun w11 =>
      (ck 3 w11 x0).bind fun _ =>
      (fX3_rows w11 x0 (x1 / 5) (x1 - x1 / 5 * 5) 1).bind fun w12 =>
      (ck 3 w11 x0).bind fun _ =>
      (fX3_hashes w11 x0 w12.toInt64).bind fun w13 =>
      fX3_digest_56 x0 k100 n w13 (x1 + 1)
def fX3_digest_106 (x0 : Option Nat) (k128 : Mem → Int32 → Option (Mem × Int64)) : Nat → Mem → Int32 → Option (Mem × Int64)
  | 0, _, _ => none
  | n + 1, M, x1 =>
    if 9 ≤ x1 then
      k128 M x1
    else
      (gR 3 11 M x0).bind fun v17 =>
      (aJ M v17 x1).bind fun v18 =>
      (ck 3 M x0).bind fun _ =>
      (fX3_hashes M x0 v18).bind fun w19 =>
      fX3_digest_106 x0 k128 n w19 (x1 + 1)
def fX3_digest_130 (x0 : Option Nat) (k161 : Mem → Int32 → Option (Mem × Int64)) : Nat → Mem → Int32 → Option (Mem × Int64)
  | 0, _, _ => none
  | n + 1, M, x1 =>
    (gR 3 1 M x0).bind fun v22 =>
    (aI M v22 45).bind fun v23 =>
    if v23 ≤ x1 then
      k161 M x1
    else
      (gR 3 1 M x0).bind fun v24 =>
      (aI M v24 (46 + x1)).bind fun v25 =>
      (ck 3 M x0).bind fun _ =>
      (fX3_hashes M x0 v25.toInt64).bind fun w26 =>
      fX3_digest_130 x0 k161 n w26 (x1 + 1)
def fX3_digest_208 (x0 : Option Nat) (k233 : Mem → Int32 → Option (Mem × Int64)) : Nat → Mem → Int32 → Option (Mem × Int64)
  | 0, _, _ => none
  | n + 1, M, x1 =>
    (gI 3 7 M x0).bind fun v37 =>
    if v37 ≤ x1 then
      k233 M x1
    else
      (gR 3 6 M x0).bind fun v38 =>
      (aI M v38 x1).bind fun v39 =>
      (ck 3 M x0).bind fun _ =>
      (fX3_hashes M x0 v39.toInt64).bind fun w40 =>
      fX3_digest_208 x0 k233 n w40 (x1 + 1)
def fX3_digest (M : Mem) (a0 : Option Nat) : Option (Mem × Int64) :=
  (pI 3 0 M a0 0).bind fun M1 =>
  (pJ 3 12 M1 a0 3623).bind fun M2 =>
  fX3_digest_14 a0
    (fun M5 x6 =>
      fX3_digest_38 a0
        (fun M8 x9 =>
          fX3_digest_56 a0
            (fun M14 x15 =>
              (ck 3 M14 a0).bind fun _ =>
              (fX3_multiplies M14 a0).bind fun w16 =>
              fX3_digest_106 a0
                (fun M20 x21 =>
                  fX3_digest_130 a0
                    (fun M27 x28 =>
                      (gR 3 5 M27 a0).bind fun v29 =>
                      (aZ M27 v29 0).bind fun v30 =>
                      (ck 3 M27 a0).bind fun _ =>
                      (fX3_hashes M27 a0 (if v30 = 0 then 0 else 1)).bind fun w31 =>
                      (gR 3 5 w31 a0).bind fun v32 =>
                      (aZ w31 v32 1).bind fun v33 =>
                      (ck 3 w31 a0).bind fun _ =>
                      (fX3_hashes w31 a0 (if v33 = 0 then 0 else 1)).bind fun w34 =>
                      (gI 3 7 w34 a0).bind fun v35 =>
                      (ck 3 w34 a0).bind fun _ =>
                      (fX3_hashes w34 a0 v35.toInt64).bind fun w36 =>
                      fX3_digest_208 a0
                        (fun M41 x42 =>
                          (gJ 3 12 M41 a0).bind fun v43 =>
                          some (M41, v43))
                        FU w36 0)
                    FU M20 0)
                FU w16 0)
            FU M8 0)
        FU M5 0)
    FU M2 0
end
section
theorem k_Jxe99ae_122 : Cond.methodLink RJxe99ae 122 yJxe99ae_isNaN_b9ae7 ∈ BIG := in_big 883 (by decide +kernel) (by decide +kernel)
theorem k_Jxe99ae_137 : Cond.constantLong RJxe99ae 137 (9221120237041090560 : Int64) ∈ BIG := in_big 889 (by decide +kernel) (by decide +kernel)
theorem k_X0_15 : Cond.fieldLink RX0 15 "SignRoots$Division" "quotient" "[I" ∈ BIG := in_big 102 (by decide +kernel) (by decide +kernel)
theorem k_X0_18 : Cond.fieldLink RX0 18 "SignRoots$Division" "bestRow" "[I" ∈ BIG := in_big 104 (by decide +kernel) (by decide +kernel)
theorem k_X0_21 : Cond.fieldLink RX0 21 "SignRoots$Division" "root" "I" ∈ BIG := in_big 106 (by decide +kernel) (by decide +kernel)
theorem k_X0_25 : Cond.fieldLink RX0 25 "SignRoots$Division" "highest" "I" ∈ BIG := in_big 107 (by decide +kernel) (by decide +kernel)
theorem k_X0_28 : Cond.fieldLink RX0 28 "SignRoots$Division" "place" "I" ∈ BIG := in_big 108 (by decide +kernel) (by decide +kernel)
theorem k_X0_35 : Cond.constant RX0 35 (1000000 : Int32) ∈ BIG := in_big 328 (by decide +kernel) (by decide +kernel)
theorem k_X0_36 : Cond.methodLink RX0 36 yX0_fits ∈ BIG := in_big 329 (by decide +kernel) (by decide +kernel)
theorem k_X0_40 : Cond.methodLink RX0 40 arraycopyName ∈ BIG := in_big 339 (by decide +kernel) (by decide +kernel)
theorem k_X0_9 : Cond.fieldLink RX0 9 "SignRoots$Division" "dividend" "[I" ∈ BIG := in_big 101 (by decide +kernel) (by decide +kernel)
theorem k_X1_11 : Cond.fieldLink RX1 11 "SignRoots$State" "signs" "[[I" ∈ BIG := in_big 71 (by decide +kernel) (by decide +kernel)
theorem k_X1_16 : Cond.fieldLink RX1 16 "SignRoots$State" "roots" "[I" ∈ BIG := in_big 73 (by decide +kernel) (by decide +kernel)
theorem k_X1_20 : Cond.fieldLink RX1 20 "SignRoots$State" "rootCount" "I" ∈ BIG := in_big 75 (by decide +kernel) (by decide +kernel)
theorem k_X1_24 : Cond.fieldLink RX1 24 "SignRoots$State" "taken" "I" ∈ BIG := in_big 77 (by decide +kernel) (by decide +kernel)
theorem k_X1_27 : Cond.fieldLink RX1 27 "SignRoots$State" "refused" "I" ∈ BIG := in_big 79 (by decide +kernel) (by decide +kernel)
theorem k_X1_30 : Cond.methodLink RX1 30 arraycopyName ∈ BIG := in_big 168 (by decide +kernel) (by decide +kernel)
theorem k_X2_100 : Cond.fieldLink RX2 100 "SignRoots$State" "rootCount" "I" ∈ BIG := in_big 76 (by decide +kernel) (by decide +kernel)
theorem k_X2_103 : Cond.fieldLink RX2 103 "SignRoots$State" "roots" "[I" ∈ BIG := in_big 74 (by decide +kernel) (by decide +kernel)
theorem k_X2_106 : Cond.methodLink RX2 106 yX2_expandWhole ∈ BIG := in_big 380 (by decide +kernel) (by decide +kernel)
theorem k_X2_109 : Cond.methodLink RX2 109 yX2_signOf ∈ BIG := in_big 270 (by decide +kernel) (by decide +kernel)
theorem k_X2_115 : Cond.classLink RX2 115 "java/lang/IllegalStateException" ∈ BIG := in_big 466 (by decide +kernel) (by decide +kernel)
theorem k_X2_12 : Cond.fieldLink RX2 12 "SignRoots" "now" "LSignRoots$State;" ∈ BIG := in_big 124 (by decide +kernel) (by decide +kernel)
theorem k_X2_120 : Cond.methodLink RX2 120 yX2_errorPlace ∈ BIG := in_big 179 (by decide +kernel) (by decide +kernel)
theorem k_X2_126 : Cond.methodLink RX2 126 yX2_signOfCode ∈ BIG := in_big 490 (by decide +kernel) (by decide +kernel)
theorem k_X2_130 : Cond.methodLink RX2 130 yX2_checkSlot ∈ BIG := in_big 500 (by decide +kernel) (by decide +kernel)
theorem k_X2_133 : Cond.methodLink RX2 133 yX1_takeOver ∈ BIG := in_big 164 (by decide +kernel) (by decide +kernel)
theorem k_X2_137 : Cond.methodLink RX2 137 yX2_degreesTogether ∈ BIG := in_big 504 (by decide +kernel) (by decide +kernel)
theorem k_X2_144 : Cond.methodLink RX2 144 yX2_checkWhat ∈ BIG := in_big 195 (by decide +kernel) (by decide +kernel)
theorem k_X2_148 : Cond.methodLink RX2 148 yX2_notZero ∈ BIG := in_big 300 (by decide +kernel) (by decide +kernel)
theorem k_X2_151 : Cond.methodLink RX2 151 yX2_changesOf ∈ BIG := in_big 303 (by decide +kernel) (by decide +kernel)
theorem k_X2_155 : Cond.methodLink RX2 155 yX2_formOf ∈ BIG := in_big 306 (by decide +kernel) (by decide +kernel)
theorem k_X2_158 : Cond.methodLink RX2 158 yX2_hasRoot ∈ BIG := in_big 277 (by decide +kernel) (by decide +kernel)
theorem k_X2_16 : Cond.fieldLink RX2 16 "SignRoots" "saved" "[LSignRoots$State;" ∈ BIG := in_big 125 (by decide +kernel) (by decide +kernel)
theorem k_X2_161 : Cond.methodLink RX2 161 yX2_countedTimes ∈ BIG := in_big 312 (by decide +kernel) (by decide +kernel)
theorem k_X2_164 : Cond.methodLink RX2 164 yX2_quotientsOf ∈ BIG := in_big 344 (by decide +kernel) (by decide +kernel)
theorem k_X2_167 : Cond.methodLink RX2 167 yX2_bestForm ∈ BIG := in_big 340 (by decide +kernel) (by decide +kernel)
theorem k_X2_170 : Cond.methodLink RX2 170 yX2_rowsOf ∈ BIG := in_big 361 (by decide +kernel) (by decide +kernel)
theorem k_X2_174 : Cond.methodLink RX2 174 yX2_isAmong ∈ BIG := in_big 580 (by decide +kernel) (by decide +kernel)
theorem k_X2_178 : Cond.methodLink RX2 178 yX2_rootsOfSign ∈ BIG := in_big 266 (by decide +kernel) (by decide +kernel)
theorem k_X2_181 : Cond.methodLink RX2 181 yX2_withRootOne ∈ BIG := in_big 273 (by decide +kernel) (by decide +kernel)
theorem k_X2_184 : Cond.methodLink RX2 184 yX2_shareOf ∈ BIG := in_big 348 (by decide +kernel) (by decide +kernel)
theorem k_X2_188 : Cond.constantLong RX2 188 (3623 : Int64) ∈ BIG := in_big 190 (by decide +kernel) (by decide +kernel)
theorem k_X2_190 : Cond.methodLink RX2 190 yX2_count ∈ BIG := in_big 191 (by decide +kernel) (by decide +kernel)
theorem k_X2_193 : Cond.methodLink RX2 193 yX2_mixed ∈ BIG := in_big 289 (by decide +kernel) (by decide +kernel)
theorem k_X2_197 : Cond.methodLink RX2 197 yX2_mixedPolynomial ∈ BIG := in_big 293 (by decide +kernel) (by decide +kernel)
theorem k_X2_20 : Cond.fieldLink RX2 20 "SignRoots" "savedStates" "I" ∈ BIG := in_big 126 (by decide +kernel) (by decide +kernel)
theorem k_X2_201 : Cond.methodLink RX2 201 yX2_mixedPairs ∈ BIG := in_big 357 (by decide +kernel) (by decide +kernel)
theorem k_X2_205 : Cond.methodLink RX2 205 yX2_mixedWhole ∈ BIG := in_big 376 (by decide +kernel) (by decide +kernel)
theorem k_X2_208 : Cond.methodLink RX2 208 yX2_mixedTexts ∈ BIG := in_big 384 (by decide +kernel) (by decide +kernel)
theorem k_X2_211 : Cond.classLink RX2 211 "java/lang/IndexOutOfBoundsException" ∈ BIG := in_big 400 (by decide +kernel) (by decide +kernel)
theorem k_X2_224 : Cond.methodLink RX2 224 yX2_dropOldest ∈ BIG := in_big 160 (by decide +kernel) (by decide +kernel)
theorem k_X2_227 : Cond.methodLink RX2 227 yX2_markOf ∈ BIG := in_big 283 (by decide +kernel) (by decide +kernel)
theorem k_X2_230 : Cond.methodLink RX2 230 yX2_sumMarks ∈ BIG := in_big 370 (by decide +kernel) (by decide +kernel)
theorem k_X2_233 : Cond.methodLink RX2 233 yX2_productMarks ∈ BIG := in_big 373 (by decide +kernel) (by decide +kernel)
theorem k_X2_236 : Cond.methodLink RX2 236 yX2_isTooHigh ∈ BIG := in_big 364 (by decide +kernel) (by decide +kernel)
theorem k_X2_24 : Cond.fieldLink RX2 24 "SignRoots" "slots" "[LSignRoots$State;" ∈ BIG := in_big 127 (by decide +kernel) (by decide +kernel)
theorem k_X2_240 : Cond.methodLink RX2 240 yX2_marksAt ∈ BIG := in_big 367 (by decide +kernel) (by decide +kernel)
theorem k_X2_244 : Cond.methodLink RX2 244 yX2_holds ∈ BIG := in_big 286 (by decide +kernel) (by decide +kernel)
theorem k_X2_248 : Cond.methodLink RX2 248 yX2_powerOf ∈ BIG := in_big 280 (by decide +kernel) (by decide +kernel)
theorem k_X2_252 : Cond.methodLink RX2 252 yX2_zerosBelow ∈ BIG := in_big 315 (by decide +kernel) (by decide +kernel)
theorem k_X2_255 : Cond.methodLink RX2 255 yX0_start ∈ BIG := in_big 318 (by decide +kernel) (by decide +kernel)
theorem k_X2_259 : Cond.constant RX2 259 (1000000 : Int32) ∈ BIG := in_big 323 (by decide +kernel) (by decide +kernel)
theorem k_X2_260 : Cond.methodLink RX2 260 yX0_advance ∈ BIG := in_big 324 (by decide +kernel) (by decide +kernel)
theorem k_X2_264 : Cond.fieldLink RX2 264 "SignRoots$Division" "quotient" "[I" ∈ BIG := in_big 103 (by decide +kernel) (by decide +kernel)
theorem k_X2_267 : Cond.methodLink RX2 267 yX0_rememberBest ∈ BIG := in_big 335 (by decide +kernel) (by decide +kernel)
theorem k_X2_27 : Cond.fieldLink RX2 27 "SignRoots" "kept" "[Z" ∈ BIG := in_big 128 (by decide +kernel) (by decide +kernel)
theorem k_X2_270 : Cond.methodLink RX2 270 yX2_isSignCode ∈ BIG := in_big 183 (by decide +kernel) (by decide +kernel)
theorem k_X2_274 : Cond.constantLong RX2 274 (31 : Int64) ∈ BIG := in_big 292 (by decide +kernel) (by decide +kernel)
theorem k_X2_276 : Cond.methodLink RX2 276 yX2_bitsOf ∈ BIG := in_big 351 (by decide +kernel) (by decide +kernel)
theorem k_X2_280 : Cond.constantLong RX2 280 (1023 : Int64) ∈ BIG := in_big 354 (by decide +kernel) (by decide +kernel)
theorem k_X2_282 : Cond.constantDouble RX2 282 (4611686018427387904 : UInt64) ∈ BIG := in_big 355 (by decide +kernel) (by decide +kernel)
theorem k_X2_284 : Cond.constantDouble RX2 284 (4841369599423283200 : UInt64) ∈ BIG := in_big 356 (by decide +kernel) (by decide +kernel)
theorem k_X2_31 : Cond.fieldLink RX2 31 "SignRoots" "buffer" "[I" ∈ BIG := in_big 129 (by decide +kernel) (by decide +kernel)
theorem k_X2_35 : Cond.fieldLink RX2 35 "SignRoots" "bufferLength" "I" ∈ BIG := in_big 130 (by decide +kernel) (by decide +kernel)
theorem k_X2_38 : Cond.fieldLink RX2 38 "SignRoots" "whole" "[J" ∈ BIG := in_big 131 (by decide +kernel) (by decide +kernel)
theorem k_X2_44 : Cond.fieldLink RX2 44 "SignRoots" "divisions" "[LSignRoots$Division;" ∈ BIG := in_big 132 (by decide +kernel) (by decide +kernel)
theorem k_X2_49 : Cond.methodLink RX2 49 yX2_checkNumber ∈ BIG := in_big 397 (by decide +kernel) (by decide +kernel)
theorem k_X2_53 : Cond.methodLink RX2 53 yX2_checkPower ∈ BIG := in_big 416 (by decide +kernel) (by decide +kernel)
theorem k_X2_56 : Cond.methodLink RX2 56 yX2_checkSign ∈ BIG := in_big 420 (by decide +kernel) (by decide +kernel)
theorem k_X2_59 : Cond.methodLink RX2 59 yX2_save ∈ BIG := in_big 156 (by decide +kernel) (by decide +kernel)
theorem k_X2_62 : Cond.fieldLink RX2 62 "SignRoots$State" "signs" "[[I" ∈ BIG := in_big 72 (by decide +kernel) (by decide +kernel)
theorem k_X2_66 : Cond.methodLink RX2 66 yX2_isAloneNotZero ∈ BIG := in_big 424 (by decide +kernel) (by decide +kernel)
theorem k_X2_70 : Cond.fieldLink RX2 70 "SignRoots$State" "refused" "I" ∈ BIG := in_big 80 (by decide +kernel) (by decide +kernel)
theorem k_X2_73 : Cond.methodLink RX2 73 yX2_degreeOf ∈ BIG := in_big 297 (by decide +kernel) (by decide +kernel)
theorem k_X2_77 : Cond.methodLink RX2 77 arraycopyName ∈ BIG := in_big 434 (by decide +kernel) (by decide +kernel)
theorem k_X2_83 : Cond.methodLink RX2 83 yX2_tryQuotients ∈ BIG := in_big 309 (by decide +kernel) (by decide +kernel)
theorem k_X2_87 : Cond.fieldLink RX2 87 "SignRoots$Division" "bestRow" "[I" ∈ BIG := in_big 105 (by decide +kernel) (by decide +kernel)
theorem k_X2_90 : Cond.fieldLink RX2 90 "SignRoots$State" "taken" "I" ∈ BIG := in_big 78 (by decide +kernel) (by decide +kernel)
theorem k_X2_93 : Cond.classLink RX2 93 "java/lang/IllegalArgumentException" ∈ BIG := in_big 198 (by decide +kernel) (by decide +kernel)
theorem k_X3_100 : Cond.methodLink RX3 100 yX3_error ∈ BIG := in_big 742 (by decide +kernel) (by decide +kernel)
theorem k_X3_104 : Cond.methodLink RX3 104 yX3_degrees ∈ BIG := in_big 754 (by decide +kernel) (by decide +kernel)
theorem k_X3_107 : Cond.methodLink RX3 107 yX3_often ∈ BIG := in_big 778 (by decide +kernel) (by decide +kernel)
theorem k_X3_110 : Cond.methodLink RX3 110 yX3_form ∈ BIG := in_big 782 (by decide +kernel) (by decide +kernel)
theorem k_X3_114 : Cond.methodLink RX3 114 yX3_tells ∈ BIG := in_big 774 (by decide +kernel) (by decide +kernel)
theorem k_X3_117 : Cond.methodLink RX3 117 yX3_has ∈ BIG := in_big 789 (by decide +kernel) (by decide +kernel)
theorem k_X3_121 : Cond.methodLink RX3 121 yX3_bestForm ∈ BIG := in_big 805 (by decide +kernel) (by decide +kernel)
theorem k_X3_124 : Cond.methodLink RX3 124 yX3_hasProduct ∈ BIG := in_big 825 (by decide +kernel) (by decide +kernel)
theorem k_X3_128 : Cond.methodLink RX3 128 yX3_isTooHigh ∈ BIG := in_big 817 (by decide +kernel) (by decide +kernel)
theorem k_X3_13 : Cond.fieldLink RX3 13 "SignRootsModel" "saved" "[I" ∈ BIG := in_big 609 (by decide +kernel) (by decide +kernel)
theorem k_X3_131 : Cond.methodLink RX3 131 yX3_isThree ∈ BIG := in_big 821 (by decide +kernel) (by decide +kernel)
theorem k_X3_134 : Cond.methodLink RX3 134 yX3_rows ∈ BIG := in_big 813 (by decide +kernel) (by decide +kernel)
theorem k_X3_138 : Cond.methodLink RX3 138 yX3_only ∈ BIG := in_big 837 (by decide +kernel) (by decide +kernel)
theorem k_X3_142 : Cond.methodLink RX3 142 yX3_isAmong ∈ BIG := in_big 833 (by decide +kernel) (by decide +kernel)
theorem k_X3_145 : Cond.methodLink RX3 145 yX3_rootsOf ∈ BIG := in_big 853 (by decide +kernel) (by decide +kernel)
theorem k_X3_148 : Cond.methodLink RX3 148 yX3_tellsCount ∈ BIG := in_big 849 (by decide +kernel) (by decide +kernel)
theorem k_X3_151 : Cond.methodLink RX3 151 yX3_share ∈ BIG := in_big 861 (by decide +kernel) (by decide +kernel)
theorem k_X3_155 : Cond.constantLong RX3 155 (31 : Int64) ∈ BIG := in_big 874 (by decide +kernel) (by decide +kernel)
theorem k_X3_157 : Cond.fieldLink RX3 157 "SignRootsModel" "hash" "J" ∈ BIG := in_big 619 (by decide +kernel) (by decide +kernel)
theorem k_X3_16 : Cond.fieldLink RX3 16 "SignRootsModel" "slots" "[I" ∈ BIG := in_big 611 (by decide +kernel) (by decide +kernel)
theorem k_X3_161 : Cond.methodLink RX3 161 yX3_hashes ∈ BIG := in_big 870 (by decide +kernel) (by decide +kernel)
theorem k_X3_165 : Cond.constantLong RX3 165 (-9 : Int64) ∈ BIG := in_big 879 (by decide +kernel) (by decide +kernel)
theorem k_X3_167 : Cond.methodLink RX3 167 yJxe99ae_doubleToLongBits_ccdee ∈ BIG := in_big 880 (by decide +kernel) (by decide +kernel)
theorem k_X3_173 : Cond.constantLong RX3 173 (3623 : Int64) ∈ BIG := in_big 869 (by decide +kernel) (by decide +kernel)
theorem k_X3_175 : Cond.methodLink RX3 175 yX3_hashesPoly ∈ BIG := in_big 875 (by decide +kernel) (by decide +kernel)
theorem k_X3_19 : Cond.fieldLink RX3 19 "SignRootsModel" "hasSlot" "[Z" ∈ BIG := in_big 612 (by decide +kernel) (by decide +kernel)
theorem k_X3_23 : Cond.fieldLink RX3 23 "SignRootsModel" "buffer" "[I" ∈ BIG := in_big 613 (by decide +kernel) (by decide +kernel)
theorem k_X3_26 : Cond.fieldLink RX3 26 "SignRootsModel" "quotient" "[I" ∈ BIG := in_big 615 (by decide +kernel) (by decide +kernel)
theorem k_X3_29 : Cond.fieldLink RX3 29 "SignRootsModel" "best" "[I" ∈ BIG := in_big 616 (by decide +kernel) (by decide +kernel)
theorem k_X3_32 : Cond.fieldLink RX3 32 "SignRootsModel" "whole" "[J" ∈ BIG := in_big 618 (by decide +kernel) (by decide +kernel)
theorem k_X3_36 : Cond.fieldLink RX3 36 "SignRootsModel" "thrown" "I" ∈ BIG := in_big 607 (by decide +kernel) (by decide +kernel)
theorem k_X3_40 : Cond.methodLink RX3 40 yX3_in ∈ BIG := in_big 658 (by decide +kernel) (by decide +kernel)
theorem k_X3_44 : Cond.methodLink RX3 44 yX3_signAt ∈ BIG := in_big 676 (by decide +kernel) (by decide +kernel)
theorem k_X3_48 : Cond.fieldLink RX3 48 "SignRootsModel" "savedMany" "I" ∈ BIG := in_big 610 (by decide +kernel) (by decide +kernel)
theorem k_X3_51 : Cond.methodLink RX3 51 yX3_degree ∈ BIG := in_big 672 (by decide +kernel) (by decide +kernel)
theorem k_X3_55 : Cond.methodLink RX3 55 yX3_changes ∈ BIG := in_big 711 (by decide +kernel) (by decide +kernel)
theorem k_X3_59 : Cond.methodLink RX3 59 yX3_isInSum ∈ BIG := in_big 704 (by decide +kernel) (by decide +kernel)
theorem k_X3_62 : Cond.fieldLink RX3 62 "SignRootsModel" "bestTimes" "I" ∈ BIG := in_big 617 (by decide +kernel) (by decide +kernel)
theorem k_X3_65 : Cond.methodLink RX3 65 yX3_laysRow ∈ BIG := in_big 696 (by decide +kernel) (by decide +kernel)
theorem k_X3_69 : Cond.methodLink RX3 69 yX3_isQuotient ∈ BIG := in_big 700 (by decide +kernel) (by decide +kernel)
theorem k_X3_7 : Cond.fieldLink RX3 7 "SignRootsModel" "s" "[I" ∈ BIG := in_big 608 (by decide +kernel) (by decide +kernel)
theorem k_X3_72 : Cond.methodLink RX3 72 yX3_notes ∈ BIG := in_big 707 (by decide +kernel) (by decide +kernel)
theorem k_X3_75 : Cond.methodLink RX3 75 yX3_isPoly ∈ BIG := in_big 655 (by decide +kernel) (by decide +kernel)
theorem k_X3_79 : Cond.methodLink RX3 79 yX3_fails ∈ BIG := in_big 661 (by decide +kernel) (by decide +kernel)
theorem k_X3_82 : Cond.methodLink RX3 82 yX3_isSign ∈ BIG := in_big 665 (by decide +kernel) (by decide +kernel)
theorem k_X3_85 : Cond.methodLink RX3 85 yX3_saves ∈ BIG := in_big 668 (by decide +kernel) (by decide +kernel)
theorem k_X3_88 : Cond.methodLink RX3 88 yX3_refuses ∈ BIG := in_big 680 (by decide +kernel) (by decide +kernel)
theorem k_X3_91 : Cond.methodLink RX3 91 yX3_divides ∈ BIG := in_big 692 (by decide +kernel) (by decide +kernel)
theorem k_X3_94 : Cond.methodLink RX3 94 yX3_multiplies ∈ BIG := in_big 726 (by decide +kernel) (by decide +kernel)
theorem k_X3_97 : Cond.fieldLink RX3 97 "SignRootsModel" "length" "I" ∈ BIG := in_big 614 (by decide +kernel) (by decide +kernel)
theorem sm_Jxe99ae_doubleToLongBits_ccdee : SMok yJxe99ae_doubleToLongBits_ccdee cJxe99ae_doubleToLongBits_ccdee 2 (some .long) 1 := ⟨in_big 882 (by decide +kernel) (by decide +kernel), in_big 881 (by decide +kernel) (by decide +kernel), in_big 54 (by decide +kernel) (by decide +kernel), by decide +kernel, by decide +kernel, by decide +kernel⟩
theorem sm_Jxe99ae_isNaN_b9ae7 : SMok yJxe99ae_isNaN_b9ae7 cJxe99ae_isNaN_b9ae7 2 (some .boolean) 1 := ⟨in_big 885 (by decide +kernel) (by decide +kernel), in_big 884 (by decide +kernel) (by decide +kernel), in_big 54 (by decide +kernel) (by decide +kernel), by decide +kernel, by decide +kernel, by decide +kernel⟩
theorem sm_X2_bitsOf : SMok yX2_bitsOf cX2_bitsOf 8 (some .long) 1 := ⟨in_big 353 (by decide +kernel) (by decide +kernel), in_big 352 (by decide +kernel) (by decide +kernel), in_big 43 (by decide +kernel) (by decide +kernel), by decide +kernel, by decide +kernel, by decide +kernel⟩
theorem sm_X2_changesOf : SMok yX2_changesOf cX2_changesOf 6 (some .int) 2 := ⟨in_big 305 (by decide +kernel) (by decide +kernel), in_big 304 (by decide +kernel) (by decide +kernel), in_big 43 (by decide +kernel) (by decide +kernel), by decide +kernel, by decide +kernel, by decide +kernel⟩
theorem sm_X2_checkNumber : SMok yX2_checkNumber cX2_checkNumber 1 none 1 := ⟨in_big 399 (by decide +kernel) (by decide +kernel), in_big 398 (by decide +kernel) (by decide +kernel), in_big 43 (by decide +kernel) (by decide +kernel), by decide +kernel, by decide +kernel, by decide +kernel⟩
theorem sm_X2_checkPower : SMok yX2_checkPower cX2_checkPower 1 none 1 := ⟨in_big 418 (by decide +kernel) (by decide +kernel), in_big 417 (by decide +kernel) (by decide +kernel), in_big 43 (by decide +kernel) (by decide +kernel), by decide +kernel, by decide +kernel, by decide +kernel⟩
theorem sm_X2_checkSign : SMok yX2_checkSign cX2_checkSign 1 none 1 := ⟨in_big 422 (by decide +kernel) (by decide +kernel), in_big 421 (by decide +kernel) (by decide +kernel), in_big 43 (by decide +kernel) (by decide +kernel), by decide +kernel, by decide +kernel, by decide +kernel⟩
theorem sm_X2_checkSlot : SMok yX2_checkSlot cX2_checkSlot 1 none 1 := ⟨in_big 502 (by decide +kernel) (by decide +kernel), in_big 501 (by decide +kernel) (by decide +kernel), in_big 43 (by decide +kernel) (by decide +kernel), by decide +kernel, by decide +kernel, by decide +kernel⟩
theorem sm_X2_checkWhat : SMok yX2_checkWhat cX2_checkWhat 2 none 2 := ⟨in_big 197 (by decide +kernel) (by decide +kernel), in_big 196 (by decide +kernel) (by decide +kernel), in_big 43 (by decide +kernel) (by decide +kernel), by decide +kernel, by decide +kernel, by decide +kernel⟩
theorem sm_X2_countedTimes : SMok yX2_countedTimes cX2_countedTimes 2 (some .int) 2 := ⟨in_big 314 (by decide +kernel) (by decide +kernel), in_big 313 (by decide +kernel) (by decide +kernel), in_big 43 (by decide +kernel) (by decide +kernel), by decide +kernel, by decide +kernel, by decide +kernel⟩
theorem sm_X2_degreeOf : SMok yX2_degreeOf cX2_degreeOf 2 (some .int) 1 := ⟨in_big 299 (by decide +kernel) (by decide +kernel), in_big 298 (by decide +kernel) (by decide +kernel), in_big 43 (by decide +kernel) (by decide +kernel), by decide +kernel, by decide +kernel, by decide +kernel⟩
theorem sm_X2_formOf : SMok yX2_formOf cX2_formOf 3 (some .int) 1 := ⟨in_big 308 (by decide +kernel) (by decide +kernel), in_big 307 (by decide +kernel) (by decide +kernel), in_big 43 (by decide +kernel) (by decide +kernel), by decide +kernel, by decide +kernel, by decide +kernel⟩
theorem sm_X2_hasRoot : SMok yX2_hasRoot cX2_hasRoot 4 (some .boolean) 2 := ⟨in_big 279 (by decide +kernel) (by decide +kernel), in_big 278 (by decide +kernel) (by decide +kernel), in_big 43 (by decide +kernel) (by decide +kernel), by decide +kernel, by decide +kernel, by decide +kernel⟩
theorem sm_X2_holds : SMok yX2_holds cX2_holds 2 (some .boolean) 2 := ⟨in_big 288 (by decide +kernel) (by decide +kernel), in_big 287 (by decide +kernel) (by decide +kernel), in_big 43 (by decide +kernel) (by decide +kernel), by decide +kernel, by decide +kernel, by decide +kernel⟩
theorem sm_X2_isAloneNotZero : SMok yX2_isAloneNotZero cX2_isAloneNotZero 2 (some .boolean) 2 := ⟨in_big 426 (by decide +kernel) (by decide +kernel), in_big 425 (by decide +kernel) (by decide +kernel), in_big 43 (by decide +kernel) (by decide +kernel), by decide +kernel, by decide +kernel, by decide +kernel⟩
theorem sm_X2_isAmong : SMok yX2_isAmong cX2_isAmong 5 (some .boolean) 4 := ⟨in_big 582 (by decide +kernel) (by decide +kernel), in_big 581 (by decide +kernel) (by decide +kernel), in_big 43 (by decide +kernel) (by decide +kernel), by decide +kernel, by decide +kernel, by decide +kernel⟩
theorem sm_X2_isSignCode : SMok yX2_isSignCode cX2_isSignCode 1 (some .boolean) 1 := ⟨in_big 185 (by decide +kernel) (by decide +kernel), in_big 184 (by decide +kernel) (by decide +kernel), in_big 43 (by decide +kernel) (by decide +kernel), by decide +kernel, by decide +kernel, by decide +kernel⟩
theorem sm_X2_isTooHigh : SMok yX2_isTooHigh cX2_isTooHigh 3 (some .boolean) 3 := ⟨in_big 366 (by decide +kernel) (by decide +kernel), in_big 365 (by decide +kernel) (by decide +kernel), in_big 43 (by decide +kernel) (by decide +kernel), by decide +kernel, by decide +kernel, by decide +kernel⟩
theorem sm_X2_markOf : SMok yX2_markOf cX2_markOf 1 (some .int) 1 := ⟨in_big 285 (by decide +kernel) (by decide +kernel), in_big 284 (by decide +kernel) (by decide +kernel), in_big 43 (by decide +kernel) (by decide +kernel), by decide +kernel, by decide +kernel, by decide +kernel⟩
theorem sm_X2_marksAt : SMok yX2_marksAt cX2_marksAt 4 (some .int) 4 := ⟨in_big 369 (by decide +kernel) (by decide +kernel), in_big 368 (by decide +kernel) (by decide +kernel), in_big 43 (by decide +kernel) (by decide +kernel), by decide +kernel, by decide +kernel, by decide +kernel⟩
theorem sm_X2_mixed : SMok yX2_mixed cX2_mixed 4 (some .long) 2 := ⟨in_big 291 (by decide +kernel) (by decide +kernel), in_big 290 (by decide +kernel) (by decide +kernel), in_big 43 (by decide +kernel) (by decide +kernel), by decide +kernel, by decide +kernel, by decide +kernel⟩
theorem sm_X2_notZero : SMok yX2_notZero cX2_notZero 3 (some .int) 1 := ⟨in_big 302 (by decide +kernel) (by decide +kernel), in_big 301 (by decide +kernel) (by decide +kernel), in_big 43 (by decide +kernel) (by decide +kernel), by decide +kernel, by decide +kernel, by decide +kernel⟩
theorem sm_X2_powerOf : SMok yX2_powerOf cX2_powerOf 2 (some .int) 2 := ⟨in_big 282 (by decide +kernel) (by decide +kernel), in_big 281 (by decide +kernel) (by decide +kernel), in_big 43 (by decide +kernel) (by decide +kernel), by decide +kernel, by decide +kernel, by decide +kernel⟩
theorem sm_X2_productMarks : SMok yX2_productMarks cX2_productMarks 5 (some .int) 3 := ⟨in_big 375 (by decide +kernel) (by decide +kernel), in_big 374 (by decide +kernel) (by decide +kernel), in_big 43 (by decide +kernel) (by decide +kernel), by decide +kernel, by decide +kernel, by decide +kernel⟩
theorem sm_X2_rowsOf : SMok yX2_rowsOf cX2_rowsOf 5 (some .int) 3 := ⟨in_big 363 (by decide +kernel) (by decide +kernel), in_big 362 (by decide +kernel) (by decide +kernel), in_big 43 (by decide +kernel) (by decide +kernel), by decide +kernel, by decide +kernel, by decide +kernel⟩
theorem sm_X2_shareOf : SMok yX2_shareOf cX2_shareOf 3 (some .double) 1 := ⟨in_big 350 (by decide +kernel) (by decide +kernel), in_big 349 (by decide +kernel) (by decide +kernel), in_big 43 (by decide +kernel) (by decide +kernel), by decide +kernel, by decide +kernel, by decide +kernel⟩
theorem sm_X2_signOf : SMok yX2_signOf cX2_signOf 2 (some .int) 1 := ⟨in_big 272 (by decide +kernel) (by decide +kernel), in_big 271 (by decide +kernel) (by decide +kernel), in_big 43 (by decide +kernel) (by decide +kernel), by decide +kernel, by decide +kernel, by decide +kernel⟩
theorem sm_X2_signOfCode : SMok yX2_signOfCode cX2_signOfCode 1 (some .int) 1 := ⟨in_big 492 (by decide +kernel) (by decide +kernel), in_big 491 (by decide +kernel) (by decide +kernel), in_big 43 (by decide +kernel) (by decide +kernel), by decide +kernel, by decide +kernel, by decide +kernel⟩
theorem sm_X2_sumMarks : SMok yX2_sumMarks cX2_sumMarks 3 (some .int) 3 := ⟨in_big 372 (by decide +kernel) (by decide +kernel), in_big 371 (by decide +kernel) (by decide +kernel), in_big 43 (by decide +kernel) (by decide +kernel), by decide +kernel, by decide +kernel, by decide +kernel⟩
theorem sm_X2_tryQuotients : SMok yX2_tryQuotients cX2_tryQuotients 9 (some .int) 4 := ⟨in_big 311 (by decide +kernel) (by decide +kernel), in_big 310 (by decide +kernel) (by decide +kernel), in_big 43 (by decide +kernel) (by decide +kernel), by decide +kernel, by decide +kernel, by decide +kernel⟩
theorem sm_X2_zerosBelow : SMok yX2_zerosBelow cX2_zerosBelow 3 (some .int) 1 := ⟨in_big 317 (by decide +kernel) (by decide +kernel), in_big 316 (by decide +kernel) (by decide +kernel), in_big 43 (by decide +kernel) (by decide +kernel), by decide +kernel, by decide +kernel, by decide +kernel⟩
theorem sm_X3_changes : SMok yX3_changes cX3_changes 7 (some .int) 3 := ⟨in_big 713 (by decide +kernel) (by decide +kernel), in_big 712 (by decide +kernel) (by decide +kernel), in_big 46 (by decide +kernel) (by decide +kernel), by decide +kernel, by decide +kernel, by decide +kernel⟩
theorem sm_X3_form : SMok yX3_form cX3_form 3 (some .int) 1 := ⟨in_big 784 (by decide +kernel) (by decide +kernel), in_big 783 (by decide +kernel) (by decide +kernel), in_big 46 (by decide +kernel) (by decide +kernel), by decide +kernel, by decide +kernel, by decide +kernel⟩
theorem sm_X3_in : SMok yX3_in cX3_in 3 (some .boolean) 3 := ⟨in_big 660 (by decide +kernel) (by decide +kernel), in_big 659 (by decide +kernel) (by decide +kernel), in_big 46 (by decide +kernel) (by decide +kernel), by decide +kernel, by decide +kernel, by decide +kernel⟩
theorem sm_X3_isInSum : SMok yX3_isInSum cX3_isInSum 3 (some .boolean) 3 := ⟨in_big 706 (by decide +kernel) (by decide +kernel), in_big 705 (by decide +kernel) (by decide +kernel), in_big 46 (by decide +kernel) (by decide +kernel), by decide +kernel, by decide +kernel, by decide +kernel⟩
theorem sm_X3_isPoly : SMok yX3_isPoly cX3_isPoly 1 (some .boolean) 1 := ⟨in_big 657 (by decide +kernel) (by decide +kernel), in_big 656 (by decide +kernel) (by decide +kernel), in_big 46 (by decide +kernel) (by decide +kernel), by decide +kernel, by decide +kernel, by decide +kernel⟩
theorem sm_X3_isSign : SMok yX3_isSign cX3_isSign 1 (some .boolean) 1 := ⟨in_big 667 (by decide +kernel) (by decide +kernel), in_big 666 (by decide +kernel) (by decide +kernel), in_big 46 (by decide +kernel) (by decide +kernel), by decide +kernel, by decide +kernel, by decide +kernel⟩
theorem vm_X0_advance : VMok yX0_advance RX0 cX0_advance 3 (some .boolean) 0 := ⟨in_big 327 (by decide +kernel) (by decide +kernel), in_big 325 (by decide +kernel) (by decide +kernel), in_big 326 (by decide +kernel) (by decide +kernel), in_big 45 (by decide +kernel) (by decide +kernel), rfl, by decide +kernel, by decide +kernel, by decide +kernel⟩
theorem vm_X0_fits : VMok yX0_fits RX0 cX0_fits 4 (some .boolean) 1 := ⟨in_big 332 (by decide +kernel) (by decide +kernel), in_big 331 (by decide +kernel) (by decide +kernel), in_big 7 (by decide +kernel) (by decide +kernel), in_big 45 (by decide +kernel) (by decide +kernel), rfl, by decide +kernel, by decide +kernel, by decide +kernel⟩
theorem vm_X0_rememberBest : VMok yX0_rememberBest RX0 cX0_rememberBest 1 none 0 := ⟨in_big 338 (by decide +kernel) (by decide +kernel), in_big 336 (by decide +kernel) (by decide +kernel), in_big 337 (by decide +kernel) (by decide +kernel), in_big 45 (by decide +kernel) (by decide +kernel), rfl, by decide +kernel, by decide +kernel, by decide +kernel⟩
theorem vm_X0_start : VMok yX0_start RX0 cX0_start 4 none 2 := ⟨in_big 321 (by decide +kernel) (by decide +kernel), in_big 319 (by decide +kernel) (by decide +kernel), in_big 320 (by decide +kernel) (by decide +kernel), in_big 45 (by decide +kernel) (by decide +kernel), rfl, by decide +kernel, by decide +kernel, by decide +kernel⟩
theorem vm_X1_takeOver : VMok yX1_takeOver RX1 cX1_takeOver 3 none 1 := ⟨in_big 167 (by decide +kernel) (by decide +kernel), in_big 165 (by decide +kernel) (by decide +kernel), in_big 166 (by decide +kernel) (by decide +kernel), in_big 44 (by decide +kernel) (by decide +kernel), rfl, by decide +kernel, by decide +kernel, by decide +kernel⟩
theorem vm_X2_bestForm : VMok yX2_bestForm RX2 cX2_bestForm 2 (some .int) 1 := ⟨in_big 343 (by decide +kernel) (by decide +kernel), in_big 342 (by decide +kernel) (by decide +kernel), in_big 8 (by decide +kernel) (by decide +kernel), in_big 43 (by decide +kernel) (by decide +kernel), rfl, by decide +kernel, by decide +kernel, by decide +kernel⟩
theorem vm_X2_count : VMok yX2_count RX2 cX2_count 2 (some .int) 1 := ⟨in_big 194 (by decide +kernel) (by decide +kernel), in_big 192 (by decide +kernel) (by decide +kernel), in_big 193 (by decide +kernel) (by decide +kernel), in_big 43 (by decide +kernel) (by decide +kernel), rfl, by decide +kernel, by decide +kernel, by decide +kernel⟩
theorem vm_X2_degreesTogether : VMok yX2_degreesTogether RX2 cX2_degreesTogether 3 (some .int) 0 := ⟨in_big 507 (by decide +kernel) (by decide +kernel), in_big 506 (by decide +kernel) (by decide +kernel), in_big 14 (by decide +kernel) (by decide +kernel), in_big 43 (by decide +kernel) (by decide +kernel), rfl, by decide +kernel, by decide +kernel, by decide +kernel⟩
theorem vm_X2_dropOldest : VMok yX2_dropOldest RX2 cX2_dropOldest 3 none 0 := ⟨in_big 163 (by decide +kernel) (by decide +kernel), in_big 162 (by decide +kernel) (by decide +kernel), in_big 1 (by decide +kernel) (by decide +kernel), in_big 43 (by decide +kernel) (by decide +kernel), rfl, by decide +kernel, by decide +kernel, by decide +kernel⟩
theorem vm_X2_errorPlace : VMok yX2_errorPlace RX2 cX2_errorPlace 2 (some .int) 0 := ⟨in_big 182 (by decide +kernel) (by decide +kernel), in_big 181 (by decide +kernel) (by decide +kernel), in_big 2 (by decide +kernel) (by decide +kernel), in_big 43 (by decide +kernel) (by decide +kernel), rfl, by decide +kernel, by decide +kernel, by decide +kernel⟩
theorem vm_X2_expandWhole : VMok yX2_expandWhole RX2 cX2_expandWhole 3 none 0 := ⟨in_big 383 (by decide +kernel) (by decide +kernel), in_big 382 (by decide +kernel) (by decide +kernel), in_big 12 (by decide +kernel) (by decide +kernel), in_big 43 (by decide +kernel) (by decide +kernel), rfl, by decide +kernel, by decide +kernel, by decide +kernel⟩
theorem vm_X2_mixedPairs : VMok yX2_mixedPairs RX2 cX2_mixedPairs 7 (some .long) 1 := ⟨in_big 360 (by decide +kernel) (by decide +kernel), in_big 359 (by decide +kernel) (by decide +kernel), in_big 10 (by decide +kernel) (by decide +kernel), in_big 43 (by decide +kernel) (by decide +kernel), rfl, by decide +kernel, by decide +kernel, by decide +kernel⟩
theorem vm_X2_mixedPolynomial : VMok yX2_mixedPolynomial RX2 cX2_mixedPolynomial 9 (some .long) 2 := ⟨in_big 296 (by decide +kernel) (by decide +kernel), in_big 295 (by decide +kernel) (by decide +kernel), in_big 6 (by decide +kernel) (by decide +kernel), in_big 43 (by decide +kernel) (by decide +kernel), rfl, by decide +kernel, by decide +kernel, by decide +kernel⟩
theorem vm_X2_mixedTexts : VMok yX2_mixedTexts RX2 cX2_mixedTexts 6 (some .long) 1 := ⟨in_big 387 (by decide +kernel) (by decide +kernel), in_big 386 (by decide +kernel) (by decide +kernel), in_big 13 (by decide +kernel) (by decide +kernel), in_big 43 (by decide +kernel) (by decide +kernel), rfl, by decide +kernel, by decide +kernel, by decide +kernel⟩
theorem vm_X2_mixedWhole : VMok yX2_mixedWhole RX2 cX2_mixedWhole 6 (some .long) 1 := ⟨in_big 379 (by decide +kernel) (by decide +kernel), in_big 378 (by decide +kernel) (by decide +kernel), in_big 11 (by decide +kernel) (by decide +kernel), in_big 43 (by decide +kernel) (by decide +kernel), rfl, by decide +kernel, by decide +kernel, by decide +kernel⟩
theorem vm_X2_quotientsOf : VMok yX2_quotientsOf RX2 cX2_quotientsOf 6 (some .int) 2 := ⟨in_big 347 (by decide +kernel) (by decide +kernel), in_big 346 (by decide +kernel) (by decide +kernel), in_big 9 (by decide +kernel) (by decide +kernel), in_big 43 (by decide +kernel) (by decide +kernel), rfl, by decide +kernel, by decide +kernel, by decide +kernel⟩
theorem vm_X2_rootsOfSign : VMok yX2_rootsOfSign RX2 cX2_rootsOfSign 4 (some .int) 1 := ⟨in_big 269 (by decide +kernel) (by decide +kernel), in_big 268 (by decide +kernel) (by decide +kernel), in_big 4 (by decide +kernel) (by decide +kernel), in_big 43 (by decide +kernel) (by decide +kernel), rfl, by decide +kernel, by decide +kernel, by decide +kernel⟩
theorem vm_X2_save : VMok yX2_save RX2 cX2_save 1 none 0 := ⟨in_big 159 (by decide +kernel) (by decide +kernel), in_big 158 (by decide +kernel) (by decide +kernel), in_big 0 (by decide +kernel) (by decide +kernel), in_big 43 (by decide +kernel) (by decide +kernel), rfl, by decide +kernel, by decide +kernel, by decide +kernel⟩
theorem vm_X2_withRootOne : VMok yX2_withRootOne RX2 cX2_withRootOne 3 (some .int) 0 := ⟨in_big 276 (by decide +kernel) (by decide +kernel), in_big 275 (by decide +kernel) (by decide +kernel), in_big 5 (by decide +kernel) (by decide +kernel), in_big 43 (by decide +kernel) (by decide +kernel), rfl, by decide +kernel, by decide +kernel, by decide +kernel⟩
theorem vm_X3_bestForm : VMok yX3_bestForm RX3 cX3_bestForm 3 (some .int) 2 := ⟨in_big 808 (by decide +kernel) (by decide +kernel), in_big 807 (by decide +kernel) (by decide +kernel), in_big 30 (by decide +kernel) (by decide +kernel), in_big 46 (by decide +kernel) (by decide +kernel), rfl, by decide +kernel, by decide +kernel, by decide +kernel⟩
theorem vm_X3_degree : VMok yX3_degree RX3 cX3_degree 4 (some .int) 1 := ⟨in_big 675 (by decide +kernel) (by decide +kernel), in_big 674 (by decide +kernel) (by decide +kernel), in_big 17 (by decide +kernel) (by decide +kernel), in_big 46 (by decide +kernel) (by decide +kernel), rfl, by decide +kernel, by decide +kernel, by decide +kernel⟩
theorem vm_X3_degrees : VMok yX3_degrees RX3 cX3_degrees 3 (some .int) 0 := ⟨in_big 757 (by decide +kernel) (by decide +kernel), in_big 756 (by decide +kernel) (by decide +kernel), in_big 26 (by decide +kernel) (by decide +kernel), in_big 46 (by decide +kernel) (by decide +kernel), rfl, by decide +kernel, by decide +kernel, by decide +kernel⟩
theorem vm_X3_divides : VMok yX3_divides RX3 cX3_divides 7 (some .int) 2 := ⟨in_big 695 (by decide +kernel) (by decide +kernel), in_big 694 (by decide +kernel) (by decide +kernel), in_big 20 (by decide +kernel) (by decide +kernel), in_big 46 (by decide +kernel) (by decide +kernel), rfl, by decide +kernel, by decide +kernel, by decide +kernel⟩
theorem vm_X3_error : VMok yX3_error RX3 cX3_error 3 (some .int) 0 := ⟨in_big 745 (by decide +kernel) (by decide +kernel), in_big 744 (by decide +kernel) (by decide +kernel), in_big 25 (by decide +kernel) (by decide +kernel), in_big 46 (by decide +kernel) (by decide +kernel), rfl, by decide +kernel, by decide +kernel, by decide +kernel⟩
theorem vm_X3_fails : VMok yX3_fails RX3 cX3_fails 2 (some .int) 1 := ⟨in_big 664 (by decide +kernel) (by decide +kernel), in_big 663 (by decide +kernel) (by decide +kernel), in_big 15 (by decide +kernel) (by decide +kernel), in_big 46 (by decide +kernel) (by decide +kernel), rfl, by decide +kernel, by decide +kernel, by decide +kernel⟩
theorem vm_X3_has : VMok yX3_has RX3 cX3_has 7 (some .boolean) 2 := ⟨in_big 792 (by decide +kernel) (by decide +kernel), in_big 791 (by decide +kernel) (by decide +kernel), in_big 29 (by decide +kernel) (by decide +kernel), in_big 46 (by decide +kernel) (by decide +kernel), rfl, by decide +kernel, by decide +kernel, by decide +kernel⟩
theorem vm_X3_hasProduct : VMok yX3_hasProduct RX3 cX3_hasProduct 7 (some .boolean) 4 := ⟨in_big 828 (by decide +kernel) (by decide +kernel), in_big 827 (by decide +kernel) (by decide +kernel), in_big 34 (by decide +kernel) (by decide +kernel), in_big 46 (by decide +kernel) (by decide +kernel), rfl, by decide +kernel, by decide +kernel, by decide +kernel⟩
theorem vm_X3_hashes : VMok yX3_hashes RX3 cX3_hashes 3 none 1 := ⟨in_big 873 (by decide +kernel) (by decide +kernel), in_big 872 (by decide +kernel) (by decide +kernel), in_big 40 (by decide +kernel) (by decide +kernel), in_big 46 (by decide +kernel) (by decide +kernel), rfl, by decide +kernel, by decide +kernel, by decide +kernel⟩
theorem vm_X3_hashesPoly : VMok yX3_hashesPoly RX3 cX3_hashesPoly 4 none 1 := ⟨in_big 878 (by decide +kernel) (by decide +kernel), in_big 877 (by decide +kernel) (by decide +kernel), in_big 41 (by decide +kernel) (by decide +kernel), in_big 46 (by decide +kernel) (by decide +kernel), rfl, by decide +kernel, by decide +kernel, by decide +kernel⟩
theorem vm_X3_isAmong : VMok yX3_isAmong RX3 cX3_isAmong 7 (some .boolean) 4 := ⟨in_big 836 (by decide +kernel) (by decide +kernel), in_big 835 (by decide +kernel) (by decide +kernel), in_big 35 (by decide +kernel) (by decide +kernel), in_big 46 (by decide +kernel) (by decide +kernel), rfl, by decide +kernel, by decide +kernel, by decide +kernel⟩
theorem vm_X3_isQuotient : VMok yX3_isQuotient RX3 cX3_isQuotient 8 (some .boolean) 3 := ⟨in_big 703 (by decide +kernel) (by decide +kernel), in_big 702 (by decide +kernel) (by decide +kernel), in_big 22 (by decide +kernel) (by decide +kernel), in_big 46 (by decide +kernel) (by decide +kernel), rfl, by decide +kernel, by decide +kernel, by decide +kernel⟩
theorem vm_X3_isThree : VMok yX3_isThree RX3 cX3_isThree 5 (some .boolean) 4 := ⟨in_big 824 (by decide +kernel) (by decide +kernel), in_big 823 (by decide +kernel) (by decide +kernel), in_big 33 (by decide +kernel) (by decide +kernel), in_big 46 (by decide +kernel) (by decide +kernel), rfl, by decide +kernel, by decide +kernel, by decide +kernel⟩
theorem vm_X3_isTooHigh : VMok yX3_isTooHigh RX3 cX3_isTooHigh 4 (some .boolean) 3 := ⟨in_big 820 (by decide +kernel) (by decide +kernel), in_big 819 (by decide +kernel) (by decide +kernel), in_big 32 (by decide +kernel) (by decide +kernel), in_big 46 (by decide +kernel) (by decide +kernel), rfl, by decide +kernel, by decide +kernel, by decide +kernel⟩
theorem vm_X3_laysRow : VMok yX3_laysRow RX3 cX3_laysRow 5 none 2 := ⟨in_big 699 (by decide +kernel) (by decide +kernel), in_big 698 (by decide +kernel) (by decide +kernel), in_big 21 (by decide +kernel) (by decide +kernel), in_big 46 (by decide +kernel) (by decide +kernel), rfl, by decide +kernel, by decide +kernel, by decide +kernel⟩
theorem vm_X3_multiplies : VMok yX3_multiplies RX3 cX3_multiplies 3 none 0 := ⟨in_big 729 (by decide +kernel) (by decide +kernel), in_big 728 (by decide +kernel) (by decide +kernel), in_big 24 (by decide +kernel) (by decide +kernel), in_big 46 (by decide +kernel) (by decide +kernel), rfl, by decide +kernel, by decide +kernel, by decide +kernel⟩
theorem vm_X3_notes : VMok yX3_notes RX3 cX3_notes 5 none 2 := ⟨in_big 710 (by decide +kernel) (by decide +kernel), in_big 709 (by decide +kernel) (by decide +kernel), in_big 23 (by decide +kernel) (by decide +kernel), in_big 46 (by decide +kernel) (by decide +kernel), rfl, by decide +kernel, by decide +kernel, by decide +kernel⟩
theorem vm_X3_often : VMok yX3_often RX3 cX3_often 4 (some .int) 2 := ⟨in_big 781 (by decide +kernel) (by decide +kernel), in_big 780 (by decide +kernel) (by decide +kernel), in_big 28 (by decide +kernel) (by decide +kernel), in_big 46 (by decide +kernel) (by decide +kernel), rfl, by decide +kernel, by decide +kernel, by decide +kernel⟩
theorem vm_X3_only : VMok yX3_only RX3 cX3_only 5 (some .int) 4 := ⟨in_big 840 (by decide +kernel) (by decide +kernel), in_big 839 (by decide +kernel) (by decide +kernel), in_big 36 (by decide +kernel) (by decide +kernel), in_big 46 (by decide +kernel) (by decide +kernel), rfl, by decide +kernel, by decide +kernel, by decide +kernel⟩
theorem vm_X3_refuses : VMok yX3_refuses RX3 cX3_refuses 2 (some .int) 1 := ⟨in_big 683 (by decide +kernel) (by decide +kernel), in_big 682 (by decide +kernel) (by decide +kernel), in_big 19 (by decide +kernel) (by decide +kernel), in_big 46 (by decide +kernel) (by decide +kernel), rfl, by decide +kernel, by decide +kernel, by decide +kernel⟩
theorem vm_X3_rootsOf : VMok yX3_rootsOf RX3 cX3_rootsOf 5 (some .int) 1 := ⟨in_big 856 (by decide +kernel) (by decide +kernel), in_big 855 (by decide +kernel) (by decide +kernel), in_big 38 (by decide +kernel) (by decide +kernel), in_big 46 (by decide +kernel) (by decide +kernel), rfl, by decide +kernel, by decide +kernel, by decide +kernel⟩
theorem vm_X3_rows : VMok yX3_rows RX3 cX3_rows 6 (some .int) 3 := ⟨in_big 816 (by decide +kernel) (by decide +kernel), in_big 815 (by decide +kernel) (by decide +kernel), in_big 31 (by decide +kernel) (by decide +kernel), in_big 46 (by decide +kernel) (by decide +kernel), rfl, by decide +kernel, by decide +kernel, by decide +kernel⟩
theorem vm_X3_saves : VMok yX3_saves RX3 cX3_saves 2 none 0 := ⟨in_big 671 (by decide +kernel) (by decide +kernel), in_big 670 (by decide +kernel) (by decide +kernel), in_big 16 (by decide +kernel) (by decide +kernel), in_big 46 (by decide +kernel) (by decide +kernel), rfl, by decide +kernel, by decide +kernel, by decide +kernel⟩
theorem vm_X3_share : VMok yX3_share RX3 cX3_share 3 (some .double) 1 := ⟨in_big 864 (by decide +kernel) (by decide +kernel), in_big 863 (by decide +kernel) (by decide +kernel), in_big 39 (by decide +kernel) (by decide +kernel), in_big 46 (by decide +kernel) (by decide +kernel), rfl, by decide +kernel, by decide +kernel, by decide +kernel⟩
theorem vm_X3_signAt : VMok yX3_signAt RX3 cX3_signAt 3 (some .int) 2 := ⟨in_big 679 (by decide +kernel) (by decide +kernel), in_big 678 (by decide +kernel) (by decide +kernel), in_big 18 (by decide +kernel) (by decide +kernel), in_big 46 (by decide +kernel) (by decide +kernel), rfl, by decide +kernel, by decide +kernel, by decide +kernel⟩
theorem vm_X3_tells : VMok yX3_tells RX3 cX3_tells 5 (some .int) 2 := ⟨in_big 777 (by decide +kernel) (by decide +kernel), in_big 776 (by decide +kernel) (by decide +kernel), in_big 27 (by decide +kernel) (by decide +kernel), in_big 46 (by decide +kernel) (by decide +kernel), rfl, by decide +kernel, by decide +kernel, by decide +kernel⟩
theorem vm_X3_tellsCount : VMok yX3_tellsCount RX3 cX3_tellsCount 4 (some .int) 1 := ⟨in_big 852 (by decide +kernel) (by decide +kernel), in_big 851 (by decide +kernel) (by decide +kernel), in_big 37 (by decide +kernel) (by decide +kernel), in_big 46 (by decide +kernel) (by decide +kernel), rfl, by decide +kernel, by decide +kernel, by decide +kernel⟩
theorem at_IAE_97 : atOk RX2 97 "java/lang/IllegalArgumentException" := ⟨by decide +kernel, by decide +kernel, by decide +kernel, by decide +kernel, fun U h => h.1.1⟩
theorem at_IOB_215 : atOk RX2 215 "java/lang/IndexOutOfBoundsException" := ⟨by decide +kernel, by decide +kernel, by decide +kernel, by decide +kernel, fun U h => h.1.2.1⟩
theorem at_ISE_119 : atOk RX2 119 "java/lang/IllegalStateException" := ⟨by decide +kernel, by decide +kernel, by decide +kernel, by decide +kernel, fun U h => h.1.2.2⟩
theorem in_IAE : Cond.initialized "java/lang/IllegalArgumentException" ∈ BIG := in_big 51 (by decide +kernel) (by decide +kernel)
theorem in_IOB : Cond.initialized "java/lang/IndexOutOfBoundsException" ∈ BIG := in_big 50 (by decide +kernel) (by decide +kernel)
theorem in_ISE : Cond.initialized "java/lang/IllegalStateException" ∈ BIG := in_big 53 (by decide +kernel) (by decide +kernel)
theorem tx_95 : ∀ U, strB U → ∃ sa, vk_R RX2 95 "a root is -9 to 9" sa U := fun U h => h (95, "a root is -9 to 9") (by decide)
theorem tx_113 : ∀ U, strB U → ∃ sa, vk_R RX2 113 "a character code is 33 to 126" sa U := fun U h => h (113, "a character code is 33 to 126") (by decide)
theorem tx_117 : ∀ U, strB U → ∃ sa, vk_R RX2 117 "the buffer is full" sa U := fun U h => h (117, "the buffer is full") (by decide)
theorem tx_124 : ∀ U, strB U → ∃ sa, vk_R RX2 124 "the buffer tells no polynomial" sa U := fun U h => h (124, "the buffer tells no polynomial") (by decide)
theorem tx_140 : ∀ U, strB U → ∃ sa, vk_R RX2 140 "the slot is empty" sa U := fun U h => h (140, "the slot is empty") (by decide)
theorem tx_142 : ∀ U, strB U → ∃ sa, vk_R RX2 142 "there is no saved state" sa U := fun U h => h (142, "there is no saved state") (by decide)
theorem tx_213 : ∀ U, strB U → ∃ sa, vk_R RX2 213 "there is no such polynomial" sa U := fun U h => h (213, "there is no such polynomial") (by decide)
theorem tx_216 : ∀ U, strB U → ∃ sa, vk_R RX2 216 "a power is 0 to 8" sa U := fun U h => h (216, "a power is 0 to 8") (by decide)
theorem tx_218 : ∀ U, strB U → ∃ sa, vk_R RX2 218 "a sign is -1, 0 or 1" sa U := fun U h => h (218, "a sign is -1, 0 or 1") (by decide)
theorem tx_220 : ∀ U, strB U → ∃ sa, vk_R RX2 220 "a slot is 0 or 1" sa U := fun U h => h (220, "a slot is 0 or 1") (by decide)
theorem tx_222 : ∀ U, strB U → ∃ sa, vk_R RX2 222 "there is no such thing to tell" sa U := fun U h => h (222, "there is no such thing to tell") (by decide)
end
