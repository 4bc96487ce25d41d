section
-- ===== PART A: goes FIRST, ahead of the names: the tables' words, and 'selects' of the private methods out of them =====
/-- a private method of a class that the tables say can be made, by its rows of tables_1 -/
def lw_okq (q : MethodName × Nat) : Prop := (q.1.cls ≠ "java/lang/invoke/MethodHandle" ∧ q.1.cls ≠ "java/lang/invoke/VarHandle") ∧ Cond.instantiable q.1.cls q.2 ∈ tables_1 ∧ Cond.privateMethod q.1 ∈ tables_1 ∧ Cond.instanceMethod q.1 ∈ tables_1
theorem lw_p0 : lw_okq (⟨"SproutTable", "canBeSolved", "()Z"⟩, 4) := ⟨⟨by decide +kernel, by decide +kernel⟩, List.mem_of_getElem? (i := 14) (by decide +kernel), List.mem_of_getElem? (i := 382) (by decide +kernel), List.mem_of_getElem? (i := 383) (by decide +kernel)⟩
theorem lw_p1 : lw_okq (⟨"SproutTable$Solver", "worthOfDraft", "(I)I"⟩, 9) := ⟨⟨by decide +kernel, by decide +kernel⟩, List.mem_of_getElem? (i := 386) (by decide +kernel), List.mem_of_getElem? (i := 521) (by decide +kernel), List.mem_of_getElem? (i := 522) (by decide +kernel)⟩
theorem lw_p2 : lw_okq (⟨"SproutTable$Solver", "worthOfKey", "(JJI)I"⟩, 9) := ⟨⟨by decide +kernel, by decide +kernel⟩, List.mem_of_getElem? (i := 386) (by decide +kernel), List.mem_of_getElem? (i := 595) (by decide +kernel), List.mem_of_getElem? (i := 596) (by decide +kernel)⟩
theorem lw_p3 : lw_okq (⟨"SproutTableModel", "begins", "(I)V"⟩, 16) := ⟨⟨by decide +kernel, by decide +kernel⟩, List.mem_of_getElem? (i := 667) (by decide +kernel), List.mem_of_getElem? (i := 676) (by decide +kernel), List.mem_of_getElem? (i := 677) (by decide +kernel)⟩
theorem lw_p4 : lw_okq (⟨"SproutTableModel", "now", "()I"⟩, 16) := ⟨⟨by decide +kernel, by decide +kernel⟩, List.mem_of_getElem? (i := 667) (by decide +kernel), List.mem_of_getElem? (i := 741) (by decide +kernel), List.mem_of_getElem? (i := 742) (by decide +kernel)⟩
theorem lw_p5 : lw_okq (⟨"SproutTableModel", "livesOf", "(I)I"⟩, 16) := ⟨⟨by decide +kernel, by decide +kernel⟩, List.mem_of_getElem? (i := 667) (by decide +kernel), List.mem_of_getElem? (i := 745) (by decide +kernel), List.mem_of_getElem? (i := 746) (by decide +kernel)⟩
theorem lw_p6 : lw_okq (⟨"SproutTableModel", "pieces", "(I)I"⟩, 16) := ⟨⟨by decide +kernel, by decide +kernel⟩, List.mem_of_getElem? (i := 667) (by decide +kernel), List.mem_of_getElem? (i := 749) (by decide +kernel), List.mem_of_getElem? (i := 750) (by decide +kernel)⟩
theorem lw_p7 : lw_okq (⟨"SproutTableModel", "hangs", "(III)V"⟩, 16) := ⟨⟨by decide +kernel, by decide +kernel⟩, List.mem_of_getElem? (i := 667) (by decide +kernel), List.mem_of_getElem? (i := 753) (by decide +kernel), List.mem_of_getElem? (i := 754) (by decide +kernel)⟩
theorem lw_p8 : lw_okq (⟨"SproutTableModel", "isField", "(I)Z"⟩, 16) := ⟨⟨by decide +kernel, by decide +kernel⟩, List.mem_of_getElem? (i := 667) (by decide +kernel), List.mem_of_getElem? (i := 761) (by decide +kernel), List.mem_of_getElem? (i := 762) (by decide +kernel)⟩
theorem lw_p9 : lw_okq (⟨"SproutTableModel", "isWall", "(II)Z"⟩, 16) := ⟨⟨by decide +kernel, by decide +kernel⟩, List.mem_of_getElem? (i := 667) (by decide +kernel), List.mem_of_getElem? (i := 772) (by decide +kernel), List.mem_of_getElem? (i := 773) (by decide +kernel)⟩
theorem lw_p10 : lw_okq (⟨"SproutTableModel", "sizeOf", "(III)I"⟩, 16) := ⟨⟨by decide +kernel, by decide +kernel⟩, List.mem_of_getElem? (i := 667) (by decide +kernel), List.mem_of_getElem? (i := 776) (by decide +kernel), List.mem_of_getElem? (i := 777) (by decide +kernel)⟩
theorem lw_p11 : lw_okq (⟨"SproutTableModel", "wallOf", "(II)I"⟩, 16) := ⟨⟨by decide +kernel, by decide +kernel⟩, List.mem_of_getElem? (i := 667) (by decide +kernel), List.mem_of_getElem? (i := 780) (by decide +kernel), List.mem_of_getElem? (i := 781) (by decide +kernel)⟩
theorem lw_p12 : lw_okq (⟨"SproutTableModel", "isCorner", "(III)Z"⟩, 16) := ⟨⟨by decide +kernel, by decide +kernel⟩, List.mem_of_getElem? (i := 667) (by decide +kernel), List.mem_of_getElem? (i := 788) (by decide +kernel), List.mem_of_getElem? (i := 789) (by decide +kernel)⟩
theorem lw_p13 : lw_okq (⟨"SproutTableModel", "spotAt", "(IIII)I"⟩, 16) := ⟨⟨by decide +kernel, by decide +kernel⟩, List.mem_of_getElem? (i := 667) (by decide +kernel), List.mem_of_getElem? (i := 792) (by decide +kernel), List.mem_of_getElem? (i := 793) (by decide +kernel)⟩
theorem lw_p14 : lw_okq (⟨"SproutTableModel", "cornersOf", "(II)I"⟩, 16) := ⟨⟨by decide +kernel, by decide +kernel⟩, List.mem_of_getElem? (i := 667) (by decide +kernel), List.mem_of_getElem? (i := 796) (by decide +kernel), List.mem_of_getElem? (i := 797) (by decide +kernel)⟩
theorem lw_p15 : lw_okq (⟨"SproutTableModel", "can", "(IIIIII)Z"⟩, 16) := ⟨⟨by decide +kernel, by decide +kernel⟩, List.mem_of_getElem? (i := 667) (by decide +kernel), List.mem_of_getElem? (i := 808) (by decide +kernel), List.mem_of_getElem? (i := 809) (by decide +kernel)⟩
def lw_privs_1 : List (MethodName × Nat) := [(⟨"SproutTable", "canBeSolved", "()Z"⟩, 4), (⟨"SproutTable$Solver", "worthOfDraft", "(I)I"⟩, 9), (⟨"SproutTable$Solver", "worthOfKey", "(JJI)I"⟩, 9), (⟨"SproutTableModel", "begins", "(I)V"⟩, 16), (⟨"SproutTableModel", "now", "()I"⟩, 16), (⟨"SproutTableModel", "livesOf", "(I)I"⟩, 16), (⟨"SproutTableModel", "pieces", "(I)I"⟩, 16), (⟨"SproutTableModel", "hangs", "(III)V"⟩, 16), (⟨"SproutTableModel", "isField", "(I)Z"⟩, 16), (⟨"SproutTableModel", "isWall", "(II)Z"⟩, 16), (⟨"SproutTableModel", "sizeOf", "(III)I"⟩, 16), (⟨"SproutTableModel", "wallOf", "(II)I"⟩, 16), (⟨"SproutTableModel", "isCorner", "(III)Z"⟩, 16), (⟨"SproutTableModel", "spotAt", "(IIII)I"⟩, 16), (⟨"SproutTableModel", "cornersOf", "(II)I"⟩, 16), (⟨"SproutTableModel", "can", "(IIIIII)Z"⟩, 16)]
theorem lw_r1 : ∀ q ∈ lw_privs_1, lw_okq q := List.forall_mem_cons.mpr ⟨lw_p0, List.forall_mem_cons.mpr ⟨lw_p1, List.forall_mem_cons.mpr ⟨lw_p2, List.forall_mem_cons.mpr ⟨lw_p3, List.forall_mem_cons.mpr ⟨lw_p4, List.forall_mem_cons.mpr ⟨lw_p5, List.forall_mem_cons.mpr ⟨lw_p6, List.forall_mem_cons.mpr ⟨lw_p7, List.forall_mem_cons.mpr ⟨lw_p8, List.forall_mem_cons.mpr ⟨lw_p9, List.forall_mem_cons.mpr ⟨lw_p10, List.forall_mem_cons.mpr ⟨lw_p11, List.forall_mem_cons.mpr ⟨lw_p12, List.forall_mem_cons.mpr ⟨lw_p13, List.forall_mem_cons.mpr ⟨lw_p14, List.forall_mem_cons.mpr ⟨lw_p15, fun _ h => absurd h List.not_mem_nil⟩⟩⟩⟩⟩⟩⟩⟩⟩⟩⟩⟩⟩⟩⟩⟩
theorem lw_p16 : lw_okq (⟨"SproutTableModel", "does", "(IIIIII)I"⟩, 16) := ⟨⟨by decide +kernel, by decide +kernel⟩, List.mem_of_getElem? (i := 667) (by decide +kernel), List.mem_of_getElem? (i := 812) (by decide +kernel), List.mem_of_getElem? (i := 813) (by decide +kernel)⟩
theorem lw_p17 : lw_okq (⟨"SproutTableModel", "joins", "(IIIIIIII)I"⟩, 16) := ⟨⟨by decide +kernel, by decide +kernel⟩, List.mem_of_getElem? (i := 667) (by decide +kernel), List.mem_of_getElem? (i := 816) (by decide +kernel), List.mem_of_getElem? (i := 817) (by decide +kernel)⟩
theorem lw_p18 : lw_okq (⟨"SproutTableModel", "clear", "(I)V"⟩, 16) := ⟨⟨by decide +kernel, by decide +kernel⟩, List.mem_of_getElem? (i := 667) (by decide +kernel), List.mem_of_getElem? (i := 820) (by decide +kernel), List.mem_of_getElem? (i := 821) (by decide +kernel)⟩
theorem lw_p19 : lw_okq (⟨"SproutTableModel", "addField", "(I)V"⟩, 16) := ⟨⟨by decide +kernel, by decide +kernel⟩, List.mem_of_getElem? (i := 667) (by decide +kernel), List.mem_of_getElem? (i := 824) (by decide +kernel), List.mem_of_getElem? (i := 825) (by decide +kernel)⟩
theorem lw_p20 : lw_okq (⟨"SproutTableModel", "copyWall", "(III)V"⟩, 16) := ⟨⟨by decide +kernel, by decide +kernel⟩, List.mem_of_getElem? (i := 667) (by decide +kernel), List.mem_of_getElem? (i := 828) (by decide +kernel), List.mem_of_getElem? (i := 829) (by decide +kernel)⟩
theorem lw_p21 : lw_okq (⟨"SproutTableModel", "addWall", "(I)V"⟩, 16) := ⟨⟨by decide +kernel, by decide +kernel⟩, List.mem_of_getElem? (i := 667) (by decide +kernel), List.mem_of_getElem? (i := 832) (by decide +kernel), List.mem_of_getElem? (i := 833) (by decide +kernel)⟩
theorem lw_p22 : lw_okq (⟨"SproutTableModel", "addCorner", "(II)V"⟩, 16) := ⟨⟨by decide +kernel, by decide +kernel⟩, List.mem_of_getElem? (i := 667) (by decide +kernel), List.mem_of_getElem? (i := 836) (by decide +kernel), List.mem_of_getElem? (i := 837) (by decide +kernel)⟩
theorem lw_p23 : lw_okq (⟨"SproutTableModel", "merges", "(IIIIIIIII)V"⟩, 16) := ⟨⟨by decide +kernel, by decide +kernel⟩, List.mem_of_getElem? (i := 667) (by decide +kernel), List.mem_of_getElem? (i := 840) (by decide +kernel), List.mem_of_getElem? (i := 841) (by decide +kernel)⟩
theorem lw_p24 : lw_okq (⟨"SproutTableModel", "round", "(IIII)V"⟩, 16) := ⟨⟨by decide +kernel, by decide +kernel⟩, List.mem_of_getElem? (i := 667) (by decide +kernel), List.mem_of_getElem? (i := 844) (by decide +kernel), List.mem_of_getElem? (i := 845) (by decide +kernel)⟩
theorem lw_p25 : lw_okq (⟨"SproutTableModel", "copyCorners", "(IIIII)V"⟩, 16) := ⟨⟨by decide +kernel, by decide +kernel⟩, List.mem_of_getElem? (i := 667) (by decide +kernel), List.mem_of_getElem? (i := 848) (by decide +kernel), List.mem_of_getElem? (i := 849) (by decide +kernel)⟩
theorem lw_p26 : lw_okq (⟨"SproutTableModel", "first", "(IIIIIIIII)V"⟩, 16) := ⟨⟨by decide +kernel, by decide +kernel⟩, List.mem_of_getElem? (i := 667) (by decide +kernel), List.mem_of_getElem? (i := 852) (by decide +kernel), List.mem_of_getElem? (i := 853) (by decide +kernel)⟩
theorem lw_p27 : lw_okq (⟨"SproutTableModel", "others", "(IIIIIII)V"⟩, 16) := ⟨⟨by decide +kernel, by decide +kernel⟩, List.mem_of_getElem? (i := 667) (by decide +kernel), List.mem_of_getElem? (i := 856) (by decide +kernel), List.mem_of_getElem? (i := 857) (by decide +kernel)⟩
theorem lw_p28 : lw_okq (⟨"SproutTableModel", "ahead", "()V"⟩, 16) := ⟨⟨by decide +kernel, by decide +kernel⟩, List.mem_of_getElem? (i := 667) (by decide +kernel), List.mem_of_getElem? (i := 864) (by decide +kernel), List.mem_of_getElem? (i := 865) (by decide +kernel)⟩
theorem lw_p29 : lw_okq (⟨"SproutTableModel", "next", "(I)Z"⟩, 16) := ⟨⟨by decide +kernel, by decide +kernel⟩, List.mem_of_getElem? (i := 667) (by decide +kernel), List.mem_of_getElem? (i := 868) (by decide +kernel), List.mem_of_getElem? (i := 869) (by decide +kernel)⟩
theorem lw_p30 : lw_okq (⟨"SproutTableModel", "steps", "(I)Z"⟩, 16) := ⟨⟨by decide +kernel, by decide +kernel⟩, List.mem_of_getElem? (i := 667) (by decide +kernel), List.mem_of_getElem? (i := 872) (by decide +kernel), List.mem_of_getElem? (i := 873) (by decide +kernel)⟩
theorem lw_p31 : lw_okq (⟨"SproutTableModel", "isThere", "(I)Z"⟩, 16) := ⟨⟨by decide +kernel, by decide +kernel⟩, List.mem_of_getElem? (i := 667) (by decide +kernel), List.mem_of_getElem? (i := 876) (by decide +kernel), List.mem_of_getElem? (i := 877) (by decide +kernel)⟩
def lw_privs_2 : List (MethodName × Nat) := [(⟨"SproutTableModel", "does", "(IIIIII)I"⟩, 16), (⟨"SproutTableModel", "joins", "(IIIIIIII)I"⟩, 16), (⟨"SproutTableModel", "clear", "(I)V"⟩, 16), (⟨"SproutTableModel", "addField", "(I)V"⟩, 16), (⟨"SproutTableModel", "copyWall", "(III)V"⟩, 16), (⟨"SproutTableModel", "addWall", "(I)V"⟩, 16), (⟨"SproutTableModel", "addCorner", "(II)V"⟩, 16), (⟨"SproutTableModel", "merges", "(IIIIIIIII)V"⟩, 16), (⟨"SproutTableModel", "round", "(IIII)V"⟩, 16), (⟨"SproutTableModel", "copyCorners", "(IIIII)V"⟩, 16), (⟨"SproutTableModel", "first", "(IIIIIIIII)V"⟩, 16), (⟨"SproutTableModel", "others", "(IIIIIII)V"⟩, 16), (⟨"SproutTableModel", "ahead", "()V"⟩, 16), (⟨"SproutTableModel", "next", "(I)Z"⟩, 16), (⟨"SproutTableModel", "steps", "(I)Z"⟩, 16), (⟨"SproutTableModel", "isThere", "(I)Z"⟩, 16)]
theorem lw_r2 : ∀ q ∈ lw_privs_2, lw_okq q := List.forall_mem_cons.mpr ⟨lw_p16, List.forall_mem_cons.mpr ⟨lw_p17, List.forall_mem_cons.mpr ⟨lw_p18, List.forall_mem_cons.mpr ⟨lw_p19, List.forall_mem_cons.mpr ⟨lw_p20, List.forall_mem_cons.mpr ⟨lw_p21, List.forall_mem_cons.mpr ⟨lw_p22, List.forall_mem_cons.mpr ⟨lw_p23, List.forall_mem_cons.mpr ⟨lw_p24, List.forall_mem_cons.mpr ⟨lw_p25, List.forall_mem_cons.mpr ⟨lw_p26, List.forall_mem_cons.mpr ⟨lw_p27, List.forall_mem_cons.mpr ⟨lw_p28, List.forall_mem_cons.mpr ⟨lw_p29, List.forall_mem_cons.mpr ⟨lw_p30, List.forall_mem_cons.mpr ⟨lw_p31, fun _ h => absurd h List.not_mem_nil⟩⟩⟩⟩⟩⟩⟩⟩⟩⟩⟩⟩⟩⟩⟩⟩
theorem lw_p32 : lw_okq (⟨"SproutTableModel", "goesTo", "(I)Z"⟩, 16) := ⟨⟨by decide +kernel, by decide +kernel⟩, List.mem_of_getElem? (i := 667) (by decide +kernel), List.mem_of_getElem? (i := 884) (by decide +kernel), List.mem_of_getElem? (i := 885) (by decide +kernel)⟩
theorem lw_p33 : lw_okq (⟨"SproutTableModel", "worthOf", "(II)I"⟩, 16) := ⟨⟨by decide +kernel, by decide +kernel⟩, List.mem_of_getElem? (i := 667) (by decide +kernel), List.mem_of_getElem? (i := 904) (by decide +kernel), List.mem_of_getElem? (i := 905) (by decide +kernel)⟩
theorem lw_p34 : lw_okq (⟨"SproutTableModel", "reduces", "(II)V"⟩, 16) := ⟨⟨by decide +kernel, by decide +kernel⟩, List.mem_of_getElem? (i := 667) (by decide +kernel), List.mem_of_getElem? (i := 912) (by decide +kernel), List.mem_of_getElem? (i := 913) (by decide +kernel)⟩
theorem lw_p35 : lw_okq (⟨"SproutTableModel", "groups", "(I)V"⟩, 16) := ⟨⟨by decide +kernel, by decide +kernel⟩, List.mem_of_getElem? (i := 667) (by decide +kernel), List.mem_of_getElem? (i := 916) (by decide +kernel), List.mem_of_getElem? (i := 917) (by decide +kernel)⟩
theorem lw_p36 : lw_okq (⟨"SproutTableModel", "together", "(III)V"⟩, 16) := ⟨⟨by decide +kernel, by decide +kernel⟩, List.mem_of_getElem? (i := 667) (by decide +kernel), List.mem_of_getElem? (i := 920) (by decide +kernel), List.mem_of_getElem? (i := 921) (by decide +kernel)⟩
theorem lw_p37 : lw_okq (⟨"SproutTableModel", "takes", "(III)V"⟩, 16) := ⟨⟨by decide +kernel, by decide +kernel⟩, List.mem_of_getElem? (i := 667) (by decide +kernel), List.mem_of_getElem? (i := 924) (by decide +kernel), List.mem_of_getElem? (i := 925) (by decide +kernel)⟩
theorem lw_p38 : lw_okq (⟨"SproutTableModel", "worthOfOne", "(I)I"⟩, 16) := ⟨⟨by decide +kernel, by decide +kernel⟩, List.mem_of_getElem? (i := 667) (by decide +kernel), List.mem_of_getElem? (i := 928) (by decide +kernel), List.mem_of_getElem? (i := 929) (by decide +kernel)⟩
theorem lw_p39 : lw_okq (⟨"SproutTableModel", "writes", "(I)V"⟩, 16) := ⟨⟨by decide +kernel, by decide +kernel⟩, List.mem_of_getElem? (i := 667) (by decide +kernel), List.mem_of_getElem? (i := 932) (by decide +kernel), List.mem_of_getElem? (i := 933) (by decide +kernel)⟩
theorem lw_p40 : lw_okq (⟨"SproutTableModel", "put", "(I)V"⟩, 16) := ⟨⟨by decide +kernel, by decide +kernel⟩, List.mem_of_getElem? (i := 667) (by decide +kernel), List.mem_of_getElem? (i := 936) (by decide +kernel), List.mem_of_getElem? (i := 937) (by decide +kernel)⟩
theorem lw_p41 : lw_okq (⟨"SproutTableModel", "placeOf", "()I"⟩, 16) := ⟨⟨by decide +kernel, by decide +kernel⟩, List.mem_of_getElem? (i := 667) (by decide +kernel), List.mem_of_getElem? (i := 940) (by decide +kernel), List.mem_of_getElem? (i := 941) (by decide +kernel)⟩
theorem lw_p42 : lw_okq (⟨"SproutTableModel", "keeps", "(II)V"⟩, 16) := ⟨⟨by decide +kernel, by decide +kernel⟩, List.mem_of_getElem? (i := 667) (by decide +kernel), List.mem_of_getElem? (i := 944) (by decide +kernel), List.mem_of_getElem? (i := 945) (by decide +kernel)⟩
def lw_privs_3 : List (MethodName × Nat) := [(⟨"SproutTableModel", "goesTo", "(I)Z"⟩, 16), (⟨"SproutTableModel", "worthOf", "(II)I"⟩, 16), (⟨"SproutTableModel", "reduces", "(II)V"⟩, 16), (⟨"SproutTableModel", "groups", "(I)V"⟩, 16), (⟨"SproutTableModel", "together", "(III)V"⟩, 16), (⟨"SproutTableModel", "takes", "(III)V"⟩, 16), (⟨"SproutTableModel", "worthOfOne", "(I)I"⟩, 16), (⟨"SproutTableModel", "writes", "(I)V"⟩, 16), (⟨"SproutTableModel", "put", "(I)V"⟩, 16), (⟨"SproutTableModel", "placeOf", "()I"⟩, 16), (⟨"SproutTableModel", "keeps", "(II)V"⟩, 16)]
theorem lw_r3 : ∀ q ∈ lw_privs_3, lw_okq q := List.forall_mem_cons.mpr ⟨lw_p32, List.forall_mem_cons.mpr ⟨lw_p33, List.forall_mem_cons.mpr ⟨lw_p34, List.forall_mem_cons.mpr ⟨lw_p35, List.forall_mem_cons.mpr ⟨lw_p36, List.forall_mem_cons.mpr ⟨lw_p37, List.forall_mem_cons.mpr ⟨lw_p38, List.forall_mem_cons.mpr ⟨lw_p39, List.forall_mem_cons.mpr ⟨lw_p40, List.forall_mem_cons.mpr ⟨lw_p41, List.forall_mem_cons.mpr ⟨lw_p42, fun _ h => absurd h List.not_mem_nil⟩⟩⟩⟩⟩⟩⟩⟩⟩⟩⟩
def lw_privs : List (MethodName × Nat) := lw_privs_1 ++ (lw_privs_2 ++ (lw_privs_3))
def lw_tbl : List Cond := k2_sels lw_privs ++ tables_1
theorem lw_privs_ok : ∀ q ∈ lw_privs, lw_okq q := by
  show ∀ q ∈ lw_privs_1 ++ (lw_privs_2 ++ (lw_privs_3)), lw_okq q
  exact List.forall_mem_append.mpr ⟨lw_r1, List.forall_mem_append.mpr ⟨lw_r2, lw_r3⟩⟩
end
section
/-! ===== BEGIN words of one list among another's, by their places ===== -/
theorem goodIn_r {big : List Cond} (ws : List Cond) (ps : List Nat) (hp : ws = ps.filterMap (fun i => big[i]?)) (h : ws.all goodWord = true) : GoodIn big ws := by
  intro w hw
  have h1 := List.all_eq_true.mp h w hw
  rw [hp] at hw
  obtain ⟨i, -, hi⟩ := List.mem_filterMap.mp hw
  have hm : w ∈ big := by first | exact List.mem_of_getElem? hi | exact List.getElem?_mem hi
  exact ⟨hm, good_of_word h1⟩
theorem goodIn_app {big a b : List Cond} (ha : GoodIn big a) (hb : GoodIn big b) : GoodIn big (a ++ b) := fun w h => (List.mem_append.mp h).elim (ha w) (hb w)
theorem goodIn_ca {big a b : List Cond} {c : Cond} (ha : GoodIn big (c :: a)) (hb : GoodIn big b) : GoodIn big (c :: (a ++ b)) := fun w h => (List.mem_cons.mp h).elim (fun e => ha w (List.mem_cons.mpr (Or.inl e))) (fun h => (List.mem_append.mp h).elim (fun h => ha w (List.mem_cons.mpr (Or.inr h))) (hb w))
theorem goodIn_sub {big ws : List Cond} (hm : ∀ w ∈ ws, w ∈ big) (h : ws.all goodWord = true) : GoodIn big ws := fun w hw => ⟨hm w hw, good_of_word (List.all_eq_true.mp h w hw)⟩
/-! ===== END ===== -/

/-! ===== BEGIN printed: names, fields, word lists, decode rows ===== -/
def RX0 : String := "SproutTable$Game"
def TX0 : u_T := fun k => match k with
  | 0 => ("SproutTable$Game", "notes", "LSproutTable$Notes;", true)
  | _ => ("SproutTable$Game", "after", "[LSproutTable$Position;", true)
def tyX0 : Nat → FieldType := fun k => match k with
  | 0 => .object "SproutTable$Notes"
  | _ => .array (.object "SproutTable$Position")
abbrev wsX00 : List Cond := u_ws RX0 TX0 2
theorem nmX0 : ∀ a, a < 2 → ∀ b, b < 2 → a ≠ b → (TX0 a).2.1 ≠ (TX0 b).2.1 := by decide +kernel
theorem tyX0_ok : ∀ k, k < 2 → parseFieldDescriptor (TX0 k).2.2.1 = some (tyX0 k) := by decide +kernel
abbrev cX0_init : ByteArray := prog_2_method_1_code
def yX0_init : MethodName := ⟨RX0, "<init>", "()V"⟩
abbrev cX0_now : ByteArray := prog_2_method_2_code
def yX0_now : MethodName := ⟨RX0, "now", "()LSproutTable$Position;"⟩
abbrev cX0_start : ByteArray := prog_2_method_3_code
def yX0_start : MethodName := ⟨RX0, "start", "(I)V"⟩
abbrev cX0_play : ByteArray := prog_2_method_4_code
def yX0_play : MethodName := ⟨RX0, "play", "(LSproutTable$Move;)I"⟩
abbrev cX0_takeBack : ByteArray := prog_2_method_5_code
def yX0_takeBack : MethodName := ⟨RX0, "takeBack", "()I"⟩
abbrev cX0_replay : ByteArray := prog_2_method_6_code
def yX0_replay : MethodName := ⟨RX0, "replay", "(LSproutTable$Notes;)V"⟩
def RX1 : String := "SproutTable$Memo"
def TX1 : u_T := fun k => match k with
  | 0 => ("SproutTable$Memo", "high", "[J", true)
  | 1 => ("SproutTable$Memo", "low", "[J", true)
  | _ => ("SproutTable$Memo", "worthAndOne", "[B", true)
def tyX1 : Nat → FieldType := fun k => match k with
  | 0 => .array .long
  | 1 => .array .long
  | _ => .array .byte
abbrev wsX10 : List Cond := u_ws RX1 TX1 3
theorem nmX1 : ∀ a, a < 3 → ∀ b, b < 3 → a ≠ b → (TX1 a).2.1 ≠ (TX1 b).2.1 := by decide +kernel
theorem tyX1_ok : ∀ k, k < 3 → parseFieldDescriptor (TX1 k).2.2.1 = some (tyX1 k) := by decide +kernel
abbrev cX1_init : ByteArray := prog_3_method_1_code
def yX1_init : MethodName := ⟨RX1, "<init>", "()V"⟩
abbrev cX1_slot : ByteArray := prog_3_method_2_code
def yX1_slot : MethodName := ⟨RX1, "slot", "(JJI)I"⟩
abbrev cX1_find : ByteArray := prog_3_method_3_code
def yX1_find : MethodName := ⟨RX1, "find", "(JJ)I"⟩
abbrev cX1_keep : ByteArray := prog_3_method_4_code
def yX1_keep : MethodName := ⟨RX1, "keep", "(JJI)V"⟩
def RX2 : String := "SproutTable$Move"
def TX2 : u_T := fun k => match k with
  | 0 => ("SproutTable$Move", "field", "I", false)
  | 1 => ("SproutTable$Move", "u", "I", false)
  | 2 => ("SproutTable$Move", "i", "I", false)
  | 3 => ("SproutTable$Move", "v", "I", false)
  | 4 => ("SproutTable$Move", "j", "I", false)
  | _ => ("SproutTable$Move", "side", "I", false)
def tyX2 : Nat → FieldType := fun k => match k with
  | 0 => .int
  | 1 => .int
  | 2 => .int
  | 3 => .int
  | 4 => .int
  | _ => .int
abbrev wsX20 : List Cond := u_ws RX2 TX2 6
theorem nmX2 : ∀ a, a < 6 → ∀ b, b < 6 → a ≠ b → (TX2 a).2.1 ≠ (TX2 b).2.1 := by decide +kernel
theorem tyX2_ok : ∀ k, k < 6 → parseFieldDescriptor (TX2 k).2.2.1 = some (tyX2 k) := by decide +kernel
abbrev cX2_init : ByteArray := prog_4_method_1_code
def yX2_init : MethodName := ⟨RX2, "<init>", "()V"⟩
abbrev cX2_rewind : ByteArray := prog_4_method_2_code
def yX2_rewind : MethodName := ⟨RX2, "rewind", "()V"⟩
abbrev cX2_take : ByteArray := prog_4_method_3_code
def yX2_take : MethodName := ⟨RX2, "take", "(LSproutTable$Move;)V"⟩
abbrev cX2_part : ByteArray := prog_4_method_4_code
def yX2_part : MethodName := ⟨RX2, "part", "(I)I"⟩
def RX3 : String := "SproutTable$Namer"
def TX3 : u_T := fun k => match k with
  | 0 => ("SproutTable$Namer", "parts", "LSproutTable$Parts;", true)
  | 1 => ("SproutTable$Namer", "sign", "[I", true)
  | 2 => ("SproutTable$Namer", "fieldRow", "[I", true)
  | 3 => ("SproutTable$Namer", "wallRow", "[I", true)
  | 4 => ("SproutTable$Namer", "text", "[J", true)
  | 5 => ("SproutTable$Namer", "startOf", "[I", true)
  | 6 => ("SproutTable$Namer", "turn", "[I", true)
  | 7 => ("SproutTable$Namer", "walked", "[I", true)
  | 8 => ("SproutTable$Namer", "ending", "[I", true)
  | 9 => ("SproutTable$Namer", "fieldsInRow", "I", false)
  | 10 => ("SproutTable$Namer", "walkedCount", "I", false)
  | 11 => ("SproutTable$Namer", "high", "J", false)
  | _ => ("SproutTable$Namer", "low", "J", false)
def tyX3 : Nat → FieldType := fun k => match k with
  | 0 => .object "SproutTable$Parts"
  | 1 => .array .int
  | 2 => .array .int
  | 3 => .array .int
  | 4 => .array .long
  | 5 => .array .int
  | 6 => .array .int
  | 7 => .array .int
  | 8 => .array .int
  | 9 => .int
  | 10 => .int
  | 11 => .long
  | _ => .long
abbrev wsX30 : List Cond := u_ws RX3 TX3 13
theorem nmX3 : ∀ a, a < 13 → ∀ b, b < 13 → a ≠ b → (TX3 a).2.1 ≠ (TX3 b).2.1 := by decide +kernel
theorem tyX3_ok : ∀ k, k < 13 → parseFieldDescriptor (TX3 k).2.2.1 = some (tyX3 k) := by decide +kernel
abbrev cX3_init : ByteArray := prog_5_method_1_code
def yX3_init : MethodName := ⟨RX3, "<init>", "(LSproutTable$Parts;)V"⟩
abbrev cX3_name : ByteArray := prog_5_method_2_code
def yX3_name : MethodName := ⟨RX3, "name", "(LSproutTable$Position;I)V"⟩
abbrev cX3_takeFields : ByteArray := prog_5_method_3_code
def yX3_takeFields : MethodName := ⟨RX3, "takeFields", "(LSproutTable$Position;I)V"⟩
abbrev cX3_signByKind : ByteArray := prog_5_method_4_code
def yX3_signByKind : MethodName := ⟨RX3, "signByKind", "(LSproutTable$Position;)V"⟩
abbrev cX3_signByFirstSight : ByteArray := prog_5_method_5_code
def yX3_signByFirstSight : MethodName := ⟨RX3, "signByFirstSight", "()Z"⟩
abbrev cX3_turnField : ByteArray := prog_5_method_6_code
def yX3_turnField : MethodName := ⟨RX3, "turnField", "(LSproutTable$Position;I)V"⟩
abbrev cX3_rowFields : ByteArray := prog_5_method_7_code
def yX3_rowFields : MethodName := ⟨RX3, "rowFields", "(LSproutTable$Position;)V"⟩
abbrev cX3_rowWalls : ByteArray := prog_5_method_8_code
def yX3_rowWalls : MethodName := ⟨RX3, "rowWalls", "(LSproutTable$Position;II)V"⟩
abbrev cX3_compareRows : ByteArray := prog_5_method_9_code
def yX3_compareRows : MethodName := ⟨RX3, "compareRows", "(LSproutTable$Position;III)I"⟩
abbrev cX3_readWall : ByteArray := prog_5_method_10_code
def yX3_readWall : MethodName := ⟨RX3, "readWall", "(LSproutTable$Position;II)V"⟩
abbrev cX3_walk : ByteArray := prog_5_method_11_code
def yX3_walk : MethodName := ⟨RX3, "walk", "(LSproutTable$Position;)V"⟩
abbrev cX3_walkWall : ByteArray := prog_5_method_12_code
def yX3_walkWall : MethodName := ⟨RX3, "walkWall", "(LSproutTable$Position;III)V"⟩
abbrev cX3_encode : ByteArray := prog_5_method_13_code
def yX3_encode : MethodName := ⟨RX3, "encode", "()V"⟩
def RX4 : String := "SproutTable$Notes"
def TX4 : u_T := fun k => match k with
  | 0 => ("SproutTable$Notes", "told", "[LSproutTable$Move;", true)
  | 1 => ("SproutTable$Notes", "firstSpots", "I", false)
  | _ => ("SproutTable$Notes", "madeCount", "I", false)
def tyX4 : Nat → FieldType := fun k => match k with
  | 0 => .array (.object "SproutTable$Move")
  | 1 => .int
  | _ => .int
abbrev wsX40 : List Cond := u_ws RX4 TX4 3
theorem nmX4 : ∀ a, a < 3 → ∀ b, b < 3 → a ≠ b → (TX4 a).2.1 ≠ (TX4 b).2.1 := by decide +kernel
theorem tyX4_ok : ∀ k, k < 3 → parseFieldDescriptor (TX4 k).2.2.1 = some (tyX4 k) := by decide +kernel
abbrev cX4_init : ByteArray := prog_6_method_1_code
def yX4_init : MethodName := ⟨RX4, "<init>", "()V"⟩
abbrev cX4_take : ByteArray := prog_6_method_2_code
def yX4_take : MethodName := ⟨RX4, "take", "(LSproutTable$Notes;)V"⟩
def RX5 : String := "SproutTable$Parts"
def TX5 : u_T := fun k => match k with
  | 0 => ("SproutTable$Parts", "times", "[I", true)
  | 1 => ("SproutTable$Parts", "firstField", "[I", true)
  | 2 => ("SproutTable$Parts", "lastField", "[I", true)
  | 3 => ("SproutTable$Parts", "links", "[I", true)
  | _ => ("SproutTable$Parts", "fieldsLeft", "I", false)
def tyX5 : Nat → FieldType := fun k => match k with
  | 0 => .array .int
  | 1 => .array .int
  | 2 => .array .int
  | 3 => .array .int
  | _ => .int
abbrev wsX50 : List Cond := u_ws RX5 TX5 5
theorem nmX5 : ∀ a, a < 5 → ∀ b, b < 5 → a ≠ b → (TX5 a).2.1 ≠ (TX5 b).2.1 := by decide +kernel
theorem tyX5_ok : ∀ k, k < 5 → parseFieldDescriptor (TX5 k).2.2.1 = some (tyX5 k) := by decide +kernel
abbrev cX5_init : ByteArray := prog_7_method_1_code
def yX5_init : MethodName := ⟨RX5, "<init>", "()V"⟩
abbrev cX5_read : ByteArray := prog_7_method_2_code
def yX5_read : MethodName := ⟨RX5, "read", "(LSproutTable$Position;)V"⟩
abbrev cX5_note : ByteArray := prog_7_method_3_code
def yX5_note : MethodName := ⟨RX5, "note", "(II)V"⟩
abbrev cX5_pairedInside : ByteArray := prog_7_method_4_code
def yX5_pairedInside : MethodName := ⟨RX5, "pairedInside", "(I)Z"⟩
abbrev cX5_nextPart : ByteArray := prog_7_method_5_code
def yX5_nextPart : MethodName := ⟨RX5, "nextPart", "(I)I"⟩
abbrev cX5_livesOf : ByteArray := prog_7_method_6_code
def yX5_livesOf : MethodName := ⟨RX5, "livesOf", "(ILSproutTable$Position;)I"⟩
def RX6 : String := "SproutTable$Position"
def TX6 : u_T := fun k => match k with
  | 0 => ("SproutTable$Position", "lean", "Z", true)
  | 1 => ("SproutTable$Position", "spotAt", "[I", true)
  | 2 => ("SproutTable$Position", "wallFrom", "[I", true)
  | 3 => ("SproutTable$Position", "fieldFrom", "[I", true)
  | 4 => ("SproutTable$Position", "life", "[I", true)
  | 5 => ("SproutTable$Position", "cornerCount", "I", false)
  | 6 => ("SproutTable$Position", "wallCount", "I", false)
  | 7 => ("SproutTable$Position", "fieldCount", "I", false)
  | 8 => ("SproutTable$Position", "spotCount", "I", false)
  | 9 => ("SproutTable$Position", "pieceCount", "I", false)
  | _ => ("SproutTable$Position", "lifeCount", "I", false)
def tyX6 : Nat → FieldType := fun k => match k with
  | 0 => .boolean
  | 1 => .array .int
  | 2 => .array .int
  | 3 => .array .int
  | 4 => .array .int
  | 5 => .int
  | 6 => .int
  | 7 => .int
  | 8 => .int
  | 9 => .int
  | _ => .int
abbrev wsX60 : List Cond := u_ws RX6 TX6 11
theorem nmX6 : ∀ a, a < 11 → ∀ b, b < 11 → a ≠ b → (TX6 a).2.1 ≠ (TX6 b).2.1 := by decide +kernel
theorem tyX6_ok : ∀ k, k < 11 → parseFieldDescriptor (TX6 k).2.2.1 = some (tyX6 k) := by decide +kernel
abbrev cX6_init : ByteArray := prog_8_method_1_code
def yX6_init : MethodName := ⟨RX6, "<init>", "(Z)V"⟩
abbrev cX6_hasField : ByteArray := prog_8_method_2_code
def yX6_hasField : MethodName := ⟨RX6, "hasField", "(I)Z"⟩
abbrev cX6_hasWall : ByteArray := prog_8_method_3_code
def yX6_hasWall : MethodName := ⟨RX6, "hasWall", "(II)Z"⟩
abbrev cX6_hasCorner : ByteArray := prog_8_method_4_code
def yX6_hasCorner : MethodName := ⟨RX6, "hasCorner", "(III)Z"⟩
abbrev cX6_wallsIn : ByteArray := prog_8_method_5_code
def yX6_wallsIn : MethodName := ⟨RX6, "wallsIn", "(I)I"⟩
abbrev cX6_cornersOn : ByteArray := prog_8_method_6_code
def yX6_cornersOn : MethodName := ⟨RX6, "cornersOn", "(II)I"⟩
abbrev cX6_size : ByteArray := prog_8_method_7_code
def yX6_size : MethodName := ⟨RX6, "size", "(I)I"⟩
abbrev cX6_spot : ByteArray := prog_8_method_8_code
def yX6_spot : MethodName := ⟨RX6, "spot", "(III)I"⟩
abbrev cX6_canMeet : ByteArray := prog_8_method_9_code
def yX6_canMeet : MethodName := ⟨RX6, "canMeet", "(II)Z"⟩
abbrev cX6_sides : ByteArray := prog_8_method_10_code
def yX6_sides : MethodName := ⟨RX6, "sides", "(LSproutTable$Move;)I"⟩
abbrev cX6_allows : ByteArray := prog_8_method_11_code
def yX6_allows : MethodName := ⟨RX6, "allows", "(LSproutTable$Move;)Z"⟩
abbrev cX6_nextPair : ByteArray := prog_8_method_12_code
def yX6_nextPair : MethodName := ⟨RX6, "nextPair", "(LSproutTable$Move;)Z"⟩
abbrev cX6_nextPartner : ByteArray := prog_8_method_13_code
def yX6_nextPartner : MethodName := ⟨RX6, "nextPartner", "(LSproutTable$Move;)Z"⟩
abbrev cX6_find : ByteArray := prog_8_method_14_code
def yX6_find : MethodName := ⟨RX6, "find", "(ILSproutTable$Move;)Z"⟩
abbrev cX6_clear : ByteArray := prog_8_method_15_code
def yX6_clear : MethodName := ⟨RX6, "clear", "()V"⟩
abbrev cX6_addSpot : ByteArray := prog_8_method_16_code
def yX6_addSpot : MethodName := ⟨RX6, "addSpot", "(I)V"⟩
abbrev cX6_start : ByteArray := prog_8_method_17_code
def yX6_start : MethodName := ⟨RX6, "start", "(I)V"⟩
abbrev cX6_takeSpots : ByteArray := prog_8_method_18_code
def yX6_takeSpots : MethodName := ⟨RX6, "takeSpots", "(LSproutTable$Position;)V"⟩
abbrev cX6_copy : ByteArray := prog_8_method_19_code
def yX6_copy : MethodName := ⟨RX6, "copy", "(LSproutTable$Position;)V"⟩
abbrev cX6_become : ByteArray := prog_8_method_20_code
def yX6_become : MethodName := ⟨RX6, "become", "(LSproutTable$Position;LSproutTable$Move;)V"⟩
abbrev cX6_spend : ByteArray := prog_8_method_21_code
def yX6_spend : MethodName := ⟨RX6, "spend", "(I)V"⟩
abbrev cX6_putField : ByteArray := prog_8_method_22_code
def yX6_putField : MethodName := ⟨RX6, "putField", "(LSproutTable$Position;I)V"⟩
abbrev cX6_putRound : ByteArray := prog_8_method_23_code
def yX6_putRound : MethodName := ⟨RX6, "putRound", "(LSproutTable$Position;III)V"⟩
abbrev cX6_wholeRound : ByteArray := prog_8_method_24_code
def yX6_wholeRound : MethodName := ⟨RX6, "wholeRound", "(II)I"⟩
abbrev cX6_putJoined : ByteArray := prog_8_method_25_code
def yX6_putJoined : MethodName := ⟨RX6, "putJoined", "(LSproutTable$Position;LSproutTable$Move;)V"⟩
abbrev cX6_putHalf : ByteArray := prog_8_method_26_code
def yX6_putHalf : MethodName := ⟨RX6, "putHalf", "(LSproutTable$Position;LSproutTable$Move;I)V"⟩
abbrev cX6_put : ByteArray := prog_8_method_27_code
def yX6_put : MethodName := ⟨RX6, "put", "(I)V"⟩
abbrev cX6_closeWall : ByteArray := prog_8_method_28_code
def yX6_closeWall : MethodName := ⟨RX6, "closeWall", "()V"⟩
abbrev cX6_closeField : ByteArray := prog_8_method_29_code
def yX6_closeField : MethodName := ⟨RX6, "closeField", "()V"⟩
abbrev cX6_canMoveFrom : ByteArray := prog_8_method_30_code
def yX6_canMoveFrom : MethodName := ⟨RX6, "canMoveFrom", "(I)Z"⟩
def RX7 : String := "SproutTable$Solver"
def TX7 : u_T := fun k => match k with
  | 0 => ("SproutTable$Solver", "parts", "LSproutTable$Parts;", true)
  | 1 => ("SproutTable$Solver", "namer", "LSproutTable$Namer;", true)
  | 2 => ("SproutTable$Solver", "memo", "LSproutTable$Memo;", true)
  | 3 => ("SproutTable$Solver", "draft", "LSproutTable$Position;", true)
  | 4 => ("SproutTable$Solver", "level", "[LSproutTable$Position;", true)
  | 5 => ("SproutTable$Solver", "tried", "[LSproutTable$Move;", true)
  | 6 => ("SproutTable$Solver", "partHigh", "[J", true)
  | 7 => ("SproutTable$Solver", "partLow", "[J", true)
  | _ => ("SproutTable$Solver", "letterSpot", "[I", true)
def tyX7 : Nat → FieldType := fun k => match k with
  | 0 => .object "SproutTable$Parts"
  | 1 => .object "SproutTable$Namer"
  | 2 => .object "SproutTable$Memo"
  | 3 => .object "SproutTable$Position"
  | 4 => .array (.object "SproutTable$Position")
  | 5 => .array (.object "SproutTable$Move")
  | 6 => .array .long
  | 7 => .array .long
  | _ => .array .int
abbrev wsX70 : List Cond := u_ws RX7 TX7 9
theorem nmX7 : ∀ a, a < 9 → ∀ b, b < 9 → a ≠ b → (TX7 a).2.1 ≠ (TX7 b).2.1 := by decide +kernel
theorem tyX7_ok : ∀ k, k < 9 → parseFieldDescriptor (TX7 k).2.2.1 = some (tyX7 k) := by decide +kernel
abbrev cX7_init : ByteArray := prog_9_method_1_code
def yX7_init : MethodName := ⟨RX7, "<init>", "()V"⟩
abbrev cX7_worth : ByteArray := prog_9_method_2_code
def yX7_worth : MethodName := ⟨RX7, "worth", "(LSproutTable$Position;)I"⟩
abbrev cX7_firstToZero : ByteArray := prog_9_method_3_code
def yX7_firstToZero : MethodName := ⟨RX7, "firstToZero", "(LSproutTable$Position;LSproutTable$Move;)I"⟩
abbrev cX7_worthOfDraft : ByteArray := prog_9_method_4_code
def yX7_worthOfDraft : MethodName := ⟨RX7, "worthOfDraft", "(I)I"⟩
abbrev cX7_worthOfKey : ByteArray := prog_9_method_5_code
def yX7_worthOfKey : MethodName := ⟨RX7, "worthOfKey", "(JJI)I"⟩
abbrev cX7_decode : ByteArray := prog_9_method_6_code
def yX7_decode : MethodName := ⟨RX7, "decode", "(JJLSproutTable$Position;)V"⟩
abbrev cX7_decodeCorners : ByteArray := prog_9_method_7_code
def yX7_decodeCorners : MethodName := ⟨RX7, "decodeCorners", "(JLSproutTable$Position;)V"⟩
abbrev cX7_spotOf : ByteArray := prog_9_method_8_code
def yX7_spotOf : MethodName := ⟨RX7, "spotOf", "(ILSproutTable$Position;)I"⟩
def RX8 : String := "SproutTable"
def TX8 : u_T := fun k => match k with
  | 0 => ("SproutTable", "game", "LSproutTable$Game;", true)
  | 1 => ("SproutTable", "images", "[LSproutTable$Notes;", true)
  | 2 => ("SproutTable", "asked", "LSproutTable$Move;", true)
  | _ => ("SproutTable", "solver", "LSproutTable$Solver;", false)
def tyX8 : Nat → FieldType := fun k => match k with
  | 0 => .object "SproutTable$Game"
  | 1 => .array (.object "SproutTable$Notes")
  | 2 => .object "SproutTable$Move"
  | _ => .object "SproutTable$Solver"
abbrev wsX80 : List Cond := u_ws RX8 TX8 4
theorem nmX8 : ∀ a, a < 4 → ∀ b, b < 4 → a ≠ b → (TX8 a).2.1 ≠ (TX8 b).2.1 := by decide +kernel
theorem tyX8_ok : ∀ k, k < 4 → parseFieldDescriptor (TX8 k).2.2.1 = some (tyX8 k) := by decide +kernel
abbrev cX8_init : ByteArray := prog_1_method_1_code
def yX8_init : MethodName := ⟨RX8, "<init>", "()V"⟩
abbrev cX8_begin : ByteArray := prog_1_method_2_code
def yX8_begin : MethodName := ⟨RX8, "begin", "(I)Z"⟩
abbrev cX8_count : ByteArray := prog_1_method_3_code
def yX8_count : MethodName := ⟨RX8, "count", "(I)I"⟩
abbrev cX8_walls : ByteArray := prog_1_method_4_code
def yX8_walls : MethodName := ⟨RX8, "walls", "(I)I"⟩
abbrev cX8_corners : ByteArray := prog_1_method_5_code
def yX8_corners : MethodName := ⟨RX8, "corners", "(II)I"⟩
abbrev cX8_corner : ByteArray := prog_1_method_6_code
def yX8_corner : MethodName := ⟨RX8, "corner", "(III)I"⟩
abbrev cX8_lives : ByteArray := prog_1_method_7_code
def yX8_lives : MethodName := ⟨RX8, "lives", "(I)I"⟩
abbrev cX8_join : ByteArray := prog_1_method_8_code
def yX8_join : MethodName := ⟨RX8, "join", "(IIIIII)I"⟩
abbrev cX8_moves : ByteArray := prog_1_method_9_code
def yX8_moves : MethodName := ⟨RX8, "moves", "()I"⟩
abbrev cX8_move : ByteArray := prog_1_method_10_code
def yX8_move : MethodName := ⟨RX8, "move", "(I)I"⟩
abbrev cX8_tell : ByteArray := prog_1_method_11_code
def yX8_tell : MethodName := ⟨RX8, "tell", "(II)I"⟩
abbrev cX8_undo : ByteArray := prog_1_method_12_code
def yX8_undo : MethodName := ⟨RX8, "undo", "()I"⟩
abbrev cX8_made : ByteArray := prog_1_method_13_code
def yX8_made : MethodName := ⟨RX8, "made", "(II)I"⟩
abbrev cX8_nim : ByteArray := prog_1_method_14_code
def yX8_nim : MethodName := ⟨RX8, "nim", "()I"⟩
abbrev cX8_best : ByteArray := prog_1_method_15_code
def yX8_best : MethodName := ⟨RX8, "best", "()I"⟩
abbrev cX8_canBeSolved : ByteArray := prog_1_method_16_code
def yX8_canBeSolved : MethodName := ⟨RX8, "canBeSolved", "()Z"⟩
abbrev cX8_image : ByteArray := prog_1_method_17_code
def yX8_image : MethodName := ⟨RX8, "image", "(I)Z"⟩
abbrev cX8_again : ByteArray := prog_1_method_18_code
def yX8_again : MethodName := ⟨RX8, "again", "(I)Z"⟩
def RX9 : String := "SproutTableModel"
def TX9 : u_T := fun k => match k with
  | 0 => ("SproutTableModel", "all", "[I", true)
  | 1 => ("SproutTableModel", "has", "[Z", true)
  | 2 => ("SproutTableModel", "keys", "[B", true)
  | 3 => ("SproutTableModel", "sizes", "[I", true)
  | 4 => ("SproutTableModel", "worth", "[B", true)
  | 5 => ("SproutTableModel", "known", "I", false)
  | 6 => ("SproutTableModel", "mf", "I", false)
  | 7 => ("SproutTableModel", "mu", "I", false)
  | 8 => ("SproutTableModel", "mi", "I", false)
  | 9 => ("SproutTableModel", "mv", "I", false)
  | 10 => ("SproutTableModel", "mj", "I", false)
  | 11 => ("SproutTableModel", "ms", "I", false)
  | 12 => ("SproutTableModel", "piece", "[I", true)
  | 13 => ("SproutTableModel", "group", "[I", true)
  | 14 => ("SproutTableModel", "key", "[B", true)
  | _ => ("SproutTableModel", "keySize", "I", false)
def tyX9 : Nat → FieldType := fun k => match k with
  | 0 => .array .int
  | 1 => .array .boolean
  | 2 => .array .byte
  | 3 => .array .int
  | 4 => .array .byte
  | 5 => .int
  | 6 => .int
  | 7 => .int
  | 8 => .int
  | 9 => .int
  | 10 => .int
  | 11 => .int
  | 12 => .array .int
  | 13 => .array .int
  | 14 => .array .byte
  | _ => .int
abbrev wsX90 : List Cond := u_ws RX9 TX9 16
theorem nmX9 : ∀ a, a < 16 → ∀ b, b < 16 → a ≠ b → (TX9 a).2.1 ≠ (TX9 b).2.1 := by decide +kernel
theorem tyX9_ok : ∀ k, k < 16 → parseFieldDescriptor (TX9 k).2.2.1 = some (tyX9 k) := by decide +kernel
abbrev cX9_init : ByteArray := prog_11_method_1_code
def yX9_init : MethodName := ⟨RX9, "<init>", "()V"⟩
abbrev cX9_begins : ByteArray := prog_11_method_2_code
def yX9_begins : MethodName := ⟨RX9, "begins", "(I)V"⟩
abbrev cX9_rowOf : ByteArray := prog_11_method_3_code
def yX9_rowOf : MethodName := ⟨RX9, "rowOf", "(I)I"⟩
abbrev cX9_now : ByteArray := prog_11_method_4_code
def yX9_now : MethodName := ⟨RX9, "now", "()I"⟩
abbrev cX9_isIn : ByteArray := prog_11_method_5_code
def yX9_isIn : MethodName := ⟨RX9, "isIn", "(II)Z"⟩
abbrev cX9_begin : ByteArray := prog_11_method_6_code
def yX9_begin : MethodName := ⟨RX9, "begin", "(I)Z"⟩
abbrev cX9_wallOf : ByteArray := prog_11_method_7_code
def yX9_wallOf : MethodName := ⟨RX9, "wallOf", "(II)I"⟩
abbrev cX9_cornersOf : ByteArray := prog_11_method_8_code
def yX9_cornersOf : MethodName := ⟨RX9, "cornersOf", "(II)I"⟩
abbrev cX9_addWall : ByteArray := prog_11_method_9_code
def yX9_addWall : MethodName := ⟨RX9, "addWall", "(I)V"⟩
abbrev cX9_addField : ByteArray := prog_11_method_10_code
def yX9_addField : MethodName := ⟨RX9, "addField", "(I)V"⟩
abbrev cX9_addCorner : ByteArray := prog_11_method_11_code
def yX9_addCorner : MethodName := ⟨RX9, "addCorner", "(II)V"⟩
abbrev cX9_copyWall : ByteArray := prog_11_method_12_code
def yX9_copyWall : MethodName := ⟨RX9, "copyWall", "(III)V"⟩
abbrev cX9_copyCorners : ByteArray := prog_11_method_13_code
def yX9_copyCorners : MethodName := ⟨RX9, "copyCorners", "(IIIII)V"⟩
abbrev cX9_round : ByteArray := prog_11_method_14_code
def yX9_round : MethodName := ⟨RX9, "round", "(IIII)V"⟩
abbrev cX9_spotAt : ByteArray := prog_11_method_15_code
def yX9_spotAt : MethodName := ⟨RX9, "spotAt", "(IIII)I"⟩
abbrev cX9_can : ByteArray := prog_11_method_16_code
def yX9_can : MethodName := ⟨RX9, "can", "(IIIIII)Z"⟩
abbrev cX9_clear : ByteArray := prog_11_method_17_code
def yX9_clear : MethodName := ⟨RX9, "clear", "(I)V"⟩
abbrev cX9_joins : ByteArray := prog_11_method_18_code
def yX9_joins : MethodName := ⟨RX9, "joins", "(IIIIIIII)I"⟩
abbrev cX9_merges : ByteArray := prog_11_method_19_code
def yX9_merges : MethodName := ⟨RX9, "merges", "(IIIIIIIII)V"⟩
abbrev cX9_first : ByteArray := prog_11_method_20_code
def yX9_first : MethodName := ⟨RX9, "first", "(IIIIIIIII)V"⟩
abbrev cX9_others : ByteArray := prog_11_method_21_code
def yX9_others : MethodName := ⟨RX9, "others", "(IIIIIII)V"⟩
abbrev cX9_ahead : ByteArray := prog_11_method_22_code
def yX9_ahead : MethodName := ⟨RX9, "ahead", "()V"⟩
abbrev cX9_sizeOf : ByteArray := prog_11_method_23_code
def yX9_sizeOf : MethodName := ⟨RX9, "sizeOf", "(III)I"⟩
abbrev cX9_next : ByteArray := prog_11_method_24_code
def yX9_next : MethodName := ⟨RX9, "next", "(I)Z"⟩
abbrev cX9_isThere : ByteArray := prog_11_method_25_code
def yX9_isThere : MethodName := ⟨RX9, "isThere", "(I)Z"⟩
abbrev cX9_steps : ByteArray := prog_11_method_26_code
def yX9_steps : MethodName := ⟨RX9, "steps", "(I)Z"⟩
abbrev cX9_count : ByteArray := prog_11_method_27_code
def yX9_count : MethodName := ⟨RX9, "count", "(I)I"⟩
abbrev cX9_livesOf : ByteArray := prog_11_method_28_code
def yX9_livesOf : MethodName := ⟨RX9, "livesOf", "(I)I"⟩
abbrev cX9_pieces : ByteArray := prog_11_method_29_code
def yX9_pieces : MethodName := ⟨RX9, "pieces", "(I)I"⟩
abbrev cX9_hangs : ByteArray := prog_11_method_30_code
def yX9_hangs : MethodName := ⟨RX9, "hangs", "(III)V"⟩
abbrev cX9_isField : ByteArray := prog_11_method_31_code
def yX9_isField : MethodName := ⟨RX9, "isField", "(I)Z"⟩
abbrev cX9_isWall : ByteArray := prog_11_method_32_code
def yX9_isWall : MethodName := ⟨RX9, "isWall", "(II)Z"⟩
abbrev cX9_isCorner : ByteArray := prog_11_method_33_code
def yX9_isCorner : MethodName := ⟨RX9, "isCorner", "(III)Z"⟩
abbrev cX9_walls : ByteArray := prog_11_method_34_code
def yX9_walls : MethodName := ⟨RX9, "walls", "(I)I"⟩
abbrev cX9_corners : ByteArray := prog_11_method_35_code
def yX9_corners : MethodName := ⟨RX9, "corners", "(II)I"⟩
abbrev cX9_corner : ByteArray := prog_11_method_36_code
def yX9_corner : MethodName := ⟨RX9, "corner", "(III)I"⟩
abbrev cX9_lives : ByteArray := prog_11_method_37_code
def yX9_lives : MethodName := ⟨RX9, "lives", "(I)I"⟩
abbrev cX9_does : ByteArray := prog_11_method_38_code
def yX9_does : MethodName := ⟨RX9, "does", "(IIIIII)I"⟩
abbrev cX9_join : ByteArray := prog_11_method_39_code
def yX9_join : MethodName := ⟨RX9, "join", "(IIIIII)I"⟩
abbrev cX9_moves : ByteArray := prog_11_method_40_code
def yX9_moves : MethodName := ⟨RX9, "moves", "()I"⟩
abbrev cX9_goesTo : ByteArray := prog_11_method_41_code
def yX9_goesTo : MethodName := ⟨RX9, "goesTo", "(I)Z"⟩
abbrev cX9_move : ByteArray := prog_11_method_42_code
def yX9_move : MethodName := ⟨RX9, "move", "(I)I"⟩
abbrev cX9_tell : ByteArray := prog_11_method_43_code
def yX9_tell : MethodName := ⟨RX9, "tell", "(II)I"⟩
abbrev cX9_undo : ByteArray := prog_11_method_44_code
def yX9_undo : MethodName := ⟨RX9, "undo", "()I"⟩
abbrev cX9_made : ByteArray := prog_11_method_45_code
def yX9_made : MethodName := ⟨RX9, "made", "(II)I"⟩
abbrev cX9_reduces : ByteArray := prog_11_method_46_code
def yX9_reduces : MethodName := ⟨RX9, "reduces", "(II)V"⟩
abbrev cX9_groups : ByteArray := prog_11_method_47_code
def yX9_groups : MethodName := ⟨RX9, "groups", "(I)V"⟩
abbrev cX9_together : ByteArray := prog_11_method_48_code
def yX9_together : MethodName := ⟨RX9, "together", "(III)V"⟩
abbrev cX9_takes : ByteArray := prog_11_method_49_code
def yX9_takes : MethodName := ⟨RX9, "takes", "(III)V"⟩
abbrev cX9_writes : ByteArray := prog_11_method_50_code
def yX9_writes : MethodName := ⟨RX9, "writes", "(I)V"⟩
abbrev cX9_put : ByteArray := prog_11_method_51_code
def yX9_put : MethodName := ⟨RX9, "put", "(I)V"⟩
abbrev cX9_placeOf : ByteArray := prog_11_method_52_code
def yX9_placeOf : MethodName := ⟨RX9, "placeOf", "()I"⟩
abbrev cX9_workRow : ByteArray := prog_11_method_53_code
def yX9_workRow : MethodName := ⟨RX9, "workRow", "(I)I"⟩
abbrev cX9_worthOf : ByteArray := prog_11_method_54_code
def yX9_worthOf : MethodName := ⟨RX9, "worthOf", "(II)I"⟩
abbrev cX9_worthOfOne : ByteArray := prog_11_method_55_code
def yX9_worthOfOne : MethodName := ⟨RX9, "worthOfOne", "(I)I"⟩
abbrev cX9_keeps : ByteArray := prog_11_method_56_code
def yX9_keeps : MethodName := ⟨RX9, "keeps", "(II)V"⟩
abbrev cX9_nim : ByteArray := prog_11_method_57_code
def yX9_nim : MethodName := ⟨RX9, "nim", "()I"⟩
abbrev cX9_best : ByteArray := prog_11_method_58_code
def yX9_best : MethodName := ⟨RX9, "best", "()I"⟩
abbrev cX9_image : ByteArray := prog_11_method_59_code
def yX9_image : MethodName := ⟨RX9, "image", "(I)Z"⟩
abbrev cX9_again : ByteArray := prog_11_method_60_code
def yX9_again : MethodName := ⟨RX9, "again", "(I)Z"⟩
def RJ6 : String := "java/lang/Integer"
def TJ6 : u_T := fun k => match k with
  | _ => ("", "", "", false)
def tyJ6 : Nat → FieldType := fun k => match k with
  | _ => .int
abbrev wsJ60 : List Cond := u_ws RJ6 TJ6 0
theorem nmJ6 : ∀ a, a < 0 → ∀ b, b < 0 → a ≠ b → (TJ6 a).2.1 ≠ (TJ6 b).2.1 := by decide +kernel
theorem tyJ6_ok : ∀ k, k < 0 → parseFieldDescriptor (TJ6 k).2.2.1 = some (tyJ6 k) := by decide +kernel
abbrev cJ6_numberOfTrailingZeros_0f7a4 : ByteArray := prog_12_method_48_code
def yJ6_numberOfTrailingZeros_0f7a4 : MethodName := ⟨RJ6, "numberOfTrailingZeros", "(I)I"⟩
def RJ10 : String := "java/lang/System"
def TJ10 : u_T := fun k => match k with
  | _ => ("", "", "", false)
def tyJ10 : Nat → FieldType := fun k => match k with
  | _ => .int
abbrev wsJ100 : List Cond := u_ws RJ10 TJ10 0
theorem nmJ10 : ∀ a, a < 0 → ∀ b, b < 0 → a ≠ b → (TJ10 a).2.1 ≠ (TJ10 b).2.1 := by decide +kernel
theorem tyJ10_ok : ∀ k, k < 0 → parseFieldDescriptor (TJ10 k).2.2.1 = some (tyJ10 k) := by decide +kernel
def RL : String := "SproutTableLaw"
abbrev cL_law : ByteArray := code
def yL_law : MethodName := ⟨RL, "law", "([I)Z"⟩
abbrev vwCl : List vw_C := [(RX0, TX0, 2), (RX1, TX1, 3), (RX2, TX2, 6), (RX3, TX3, 13), (RX4, TX4, 3), (RX5, TX5, 5), (RX6, TX6, 11), (RX7, TX7, 9), (RX8, TX8, 4), (RX9, TX9, 16)]
end
section
/-! the code of every method, as a table of instructions with what their pool entries name (printed by wip/whole/gen_tabs.py) -/
def ipc_0 : List (Nat × Instr × Nat × Nat × Nat) := [(0, .aload_n 0, 1, 0, 0), (1, .invokespecial 3, 3, 999, 0), (4, .aload_n 0, 1, 0, 0), (5, .new 9, 3, 4, 0), (8, .dup, 1, 0, 0), (9, .invokespecial 11, 3, 27, 0), (12, .putfield 12, 3, 0, 0), (15, .aload_n 0, 1, 0, 0), (16, .bipush 24, 2, 0, 0), (18, .anewarray 18, 3, 5, 0), (21, .putfield 20, 3, 0, 1), (24, .iconst 0, 1, 0, 0), (25, .istore_n 1, 1, 0, 0), (26, .iload_n 1, 1, 0, 0), (27, .bipush 23, 2, 0, 0), (29, .if_icmp .gt 23, 3, 52, 0), (32, .aload_n 0, 1, 0, 0), (33, .getfield 20, 3, 0, 1), (36, .iload_n 1, 1, 0, 0), (37, .new 18, 3, 6, 0), (40, .dup, 1, 0, 0), (41, .iconst 0, 1, 0, 0), (42, .invokespecial 24, 3, 35, 1), (45, .aastore, 1, 0, 0), (46, .iinc 1 1, 3, 0, 0), (49, .goto (-23), 3, 26, 0), (52, .return_, 1, 0, 0)]
def ipc_1 : List (Nat × Instr × Nat × Nat × Nat) := [(0, .aload_n 0, 1, 0, 0), (1, .getfield 20, 3, 0, 1), (4, .aload_n 0, 1, 0, 0), (5, .getfield 12, 3, 0, 0), (8, .getfield 27, 3, 4, 2), (11, .aaload, 1, 0, 0), (12, .areturn, 1, 0, 0)]
def ipc_2 : List (Nat × Instr × Nat × Nat × Nat) := [(0, .aload_n 0, 1, 0, 0), (1, .getfield 12, 3, 0, 0), (4, .iload_n 1, 1, 0, 0), (5, .putfield 31, 3, 4, 1), (8, .aload_n 0, 1, 0, 0), (9, .getfield 12, 3, 0, 0), (12, .iconst 0, 1, 0, 0), (13, .putfield 27, 3, 4, 2), (16, .aload_n 0, 1, 0, 0), (17, .getfield 20, 3, 0, 1), (20, .iconst 0, 1, 0, 0), (21, .aaload, 1, 0, 0), (22, .iload_n 1, 1, 0, 0), (23, .invokevirtual 34, 3, 51, 1), (26, .return_, 1, 0, 0)]
def ipc_3 : List (Nat × Instr × Nat × Nat × Nat) := [(0, .aload_n 0, 1, 0, 0), (1, .getfield 12, 3, 0, 0), (4, .getfield 27, 3, 4, 2), (7, .istore_n 2, 1, 0, 0), (8, .iload_n 2, 1, 0, 0), (9, .bipush 23, 2, 0, 0), (11, .if_icmp .lt 5, 3, 16, 0), (14, .iconst (-1), 1, 0, 0), (15, .ireturn, 1, 0, 0), (16, .aload_n 0, 1, 0, 0), (17, .getfield 20, 3, 0, 1), (20, .iload_n 2, 1, 0, 0), (21, .iconst 1, 1, 0, 0), (22, .iadd, 1, 0, 0), (23, .aaload, 1, 0, 0), (24, .aload_n 0, 1, 0, 0), (25, .getfield 20, 3, 0, 1), (28, .iload_n 2, 1, 0, 0), (29, .aaload, 1, 0, 0), (30, .aload_n 1, 1, 0, 0), (31, .invokevirtual 38, 3, 54, 2), (34, .aload_n 0, 1, 0, 0), (35, .getfield 12, 3, 0, 0), (38, .getfield 42, 3, 4, 0), (41, .iload_n 2, 1, 0, 0), (42, .aaload, 1, 0, 0), (43, .aload_n 1, 1, 0, 0), (44, .invokevirtual 46, 3, 12, 1), (47, .aload_n 0, 1, 0, 0), (48, .getfield 12, 3, 0, 0), (51, .iload_n 2, 1, 0, 0), (52, .iconst 1, 1, 0, 0), (53, .iadd, 1, 0, 0), (54, .putfield 27, 3, 4, 2), (57, .aload_n 0, 1, 0, 0), (58, .getfield 20, 3, 0, 1), (61, .iload_n 2, 1, 0, 0), (62, .aaload, 1, 0, 0), (63, .getfield 52, 3, 6, 8), (66, .ireturn, 1, 0, 0)]
def ipc_4 : List (Nat × Instr × Nat × Nat × Nat) := [(0, .aload_n 0, 1, 0, 0), (1, .getfield 12, 3, 0, 0), (4, .getfield 27, 3, 4, 2), (7, .ifCond .ne 5, 3, 12, 0), (10, .iconst (-1), 1, 0, 0), (11, .ireturn, 1, 0, 0), (12, .aload_n 0, 1, 0, 0), (13, .getfield 12, 3, 0, 0), (16, .dup, 1, 0, 0), (17, .getfield 27, 3, 4, 2), (20, .iconst 1, 1, 0, 0), (21, .isub, 1, 0, 0), (22, .putfield 27, 3, 4, 2), (25, .aload_n 0, 1, 0, 0), (26, .getfield 12, 3, 0, 0), (29, .getfield 27, 3, 4, 2), (32, .ireturn, 1, 0, 0)]
def ipc_5 : List (Nat × Instr × Nat × Nat × Nat) := [(0, .aload_n 0, 1, 0, 0), (1, .aload_n 1, 1, 0, 0), (2, .getfield 31, 3, 4, 1), (5, .invokevirtual 55, 3, 2, 1), (8, .iconst 0, 1, 0, 0), (9, .istore_n 2, 1, 0, 0), (10, .iload_n 2, 1, 0, 0), (11, .aload_n 1, 1, 0, 0), (12, .getfield 27, 3, 4, 2), (15, .if_icmp .ge 20, 3, 35, 0), (18, .aload_n 0, 1, 0, 0), (19, .aload_n 1, 1, 0, 0), (20, .getfield 42, 3, 4, 0), (23, .iload_n 2, 1, 0, 0), (24, .aaload, 1, 0, 0), (25, .invokevirtual 56, 3, 3, 1), (28, .pop, 1, 0, 0), (29, .iinc 2 1, 3, 0, 0), (32, .goto (-22), 3, 10, 0), (35, .return_, 1, 0, 0)]
def ipc_6 : List (Nat × Instr × Nat × Nat × Nat) := [(0, .aload_n 0, 1, 0, 0), (1, .invokespecial 5, 3, 999, 0), (4, .aload_n 0, 1, 0, 0), (5, .sipush 4096, 3, 0, 0), (8, .newarray .long, 2, 1, 0), (10, .putfield 11, 3, 1, 0), (13, .aload_n 0, 1, 0, 0), (14, .sipush 4096, 3, 0, 0), (17, .newarray .long, 2, 1, 0), (19, .putfield 15, 3, 1, 1), (22, .aload_n 0, 1, 0, 0), (23, .sipush 4096, 3, 0, 0), (26, .newarray .byte, 2, 2, 0), (28, .putfield 18, 3, 1, 2), (31, .return_, 1, 0, 0)]
def ipc_7 : List (Nat × Instr × Nat × Nat × Nat) := [(0, .lload_n 1, 1, 0, 0), (1, .ldc2_w 22, 3, 31, 0), (4, .lmul, 1, 0, 0), (5, .lload_n 3, 1, 0, 0), (6, .ladd, 1, 0, 0), (7, .ldc2_w 24, 3, 11400714819323198485, 0), (10, .lmul, 1, 0, 0), (11, .lstore 6, 2, 0, 0), (13, .lload 6, 2, 0, 0), (15, .bipush 52, 2, 0, 0), (17, .lushr, 1, 0, 0), (18, .l2i, 1, 0, 0), (19, .iload 5, 2, 0, 0), (21, .iadd, 1, 0, 0), (22, .sipush 4095, 3, 0, 0), (25, .iand, 1, 0, 0), (26, .ireturn, 1, 0, 0)]
def ipc_8 : List (Nat × Instr × Nat × Nat × Nat) := [(0, .iconst 0, 1, 0, 0), (1, .istore 5, 2, 0, 0), (3, .iload 5, 2, 0, 0), (5, .bipush 8, 2, 0, 0), (7, .if_icmp .ge 65, 3, 72, 0), (10, .aload_n 0, 1, 0, 0), (11, .lload_n 1, 1, 0, 0), (12, .lload_n 3, 1, 0, 0), (13, .iload 5, 2, 0, 0), (15, .invokevirtual 26, 3, 7, 3), (18, .istore 6, 2, 0, 0), (20, .aload_n 0, 1, 0, 0), (21, .getfield 18, 3, 1, 2), (24, .iload 6, 2, 0, 0), (26, .baload, 1, 0, 0), (27, .ifCond .ne 5, 3, 32, 0), (30, .iconst (-1), 1, 0, 0), (31, .ireturn, 1, 0, 0), (32, .aload_n 0, 1, 0, 0), (33, .getfield 11, 3, 1, 0), (36, .iload 6, 2, 0, 0), (38, .laload, 1, 0, 0), (39, .lload_n 1, 1, 0, 0), (40, .lcmp, 1, 0, 0), (41, .ifCond .ne 25, 3, 66, 0), (44, .aload_n 0, 1, 0, 0), (45, .getfield 15, 3, 1, 1), (48, .iload 6, 2, 0, 0), (50, .laload, 1, 0, 0), (51, .lload_n 3, 1, 0, 0), (52, .lcmp, 1, 0, 0), (53, .ifCond .ne 13, 3, 66, 0), (56, .aload_n 0, 1, 0, 0), (57, .getfield 18, 3, 1, 2), (60, .iload 6, 2, 0, 0), (62, .baload, 1, 0, 0), (63, .iconst 1, 1, 0, 0), (64, .isub, 1, 0, 0), (65, .ireturn, 1, 0, 0), (66, .iinc 5 1, 3, 0, 0), (69, .goto (-66), 3, 3, 0), (72, .iconst (-1), 1, 0, 0), (73, .ireturn, 1, 0, 0)]
def ipc_9 : List (Nat × Instr × Nat × Nat × Nat) := [(0, .aload_n 0, 1, 0, 0), (1, .lload_n 1, 1, 0, 0), (2, .lload_n 3, 1, 0, 0), (3, .iconst 0, 1, 0, 0), (4, .invokevirtual 26, 3, 7, 3), (7, .istore 6, 2, 0, 0), (9, .bipush 7, 2, 0, 0), (11, .istore 7, 2, 0, 0), (13, .iload 7, 2, 0, 0), (15, .ifCond .lt 33, 3, 48, 0), (18, .aload_n 0, 1, 0, 0), (19, .lload_n 1, 1, 0, 0), (20, .lload_n 3, 1, 0, 0), (21, .iload 7, 2, 0, 0), (23, .invokevirtual 26, 3, 7, 3), (26, .istore 8, 2, 0, 0), (28, .aload_n 0, 1, 0, 0), (29, .getfield 18, 3, 1, 2), (32, .iload 8, 2, 0, 0), (34, .baload, 1, 0, 0), (35, .ifCond .ne 7, 3, 42, 0), (38, .iload 8, 2, 0, 0), (40, .istore 6, 2, 0, 0), (42, .iinc 7 (-1), 3, 0, 0), (45, .goto (-32), 3, 13, 0), (48, .aload_n 0, 1, 0, 0), (49, .getfield 11, 3, 1, 0), (52, .iload 6, 2, 0, 0), (54, .lload_n 1, 1, 0, 0), (55, .lastore, 1, 0, 0), (56, .aload_n 0, 1, 0, 0), (57, .getfield 15, 3, 1, 1), (60, .iload 6, 2, 0, 0), (62, .lload_n 3, 1, 0, 0), (63, .lastore, 1, 0, 0), (64, .aload_n 0, 1, 0, 0), (65, .getfield 18, 3, 1, 2), (68, .iload 6, 2, 0, 0), (70, .iload 5, 2, 0, 0), (72, .iconst 1, 1, 0, 0), (73, .iadd, 1, 0, 0), (74, .i2b, 1, 0, 0), (75, .bastore, 1, 0, 0), (76, .return_, 1, 0, 0)]
def ipc_10 : List (Nat × Instr × Nat × Nat × Nat) := [(0, .aload_n 0, 1, 0, 0), (1, .invokespecial 3, 3, 999, 0), (4, .return_, 1, 0, 0)]
def ipc_11 : List (Nat × Instr × Nat × Nat × Nat) := [(0, .aload_n 0, 1, 0, 0), (1, .iconst 0, 1, 0, 0), (2, .putfield 9, 3, 2, 0), (5, .aload_n 0, 1, 0, 0), (6, .iconst 0, 1, 0, 0), (7, .putfield 15, 3, 2, 1), (10, .aload_n 0, 1, 0, 0), (11, .iconst 0, 1, 0, 0), (12, .putfield 18, 3, 2, 2), (15, .aload_n 0, 1, 0, 0), (16, .iconst 0, 1, 0, 0), (17, .putfield 21, 3, 2, 3), (20, .aload_n 0, 1, 0, 0), (21, .iconst (-1), 1, 0, 0), (22, .putfield 24, 3, 2, 4), (25, .aload_n 0, 1, 0, 0), (26, .iconst 0, 1, 0, 0), (27, .putfield 27, 3, 2, 5), (30, .return_, 1, 0, 0)]
def ipc_12 : List (Nat × Instr × Nat × Nat × Nat) := [(0, .aload_n 0, 1, 0, 0), (1, .aload_n 1, 1, 0, 0), (2, .getfield 9, 3, 2, 0), (5, .putfield 9, 3, 2, 0), (8, .aload_n 0, 1, 0, 0), (9, .aload_n 1, 1, 0, 0), (10, .getfield 15, 3, 2, 1), (13, .putfield 15, 3, 2, 1), (16, .aload_n 0, 1, 0, 0), (17, .aload_n 1, 1, 0, 0), (18, .getfield 18, 3, 2, 2), (21, .putfield 18, 3, 2, 2), (24, .aload_n 0, 1, 0, 0), (25, .aload_n 1, 1, 0, 0), (26, .getfield 21, 3, 2, 3), (29, .putfield 21, 3, 2, 3), (32, .aload_n 0, 1, 0, 0), (33, .aload_n 1, 1, 0, 0), (34, .getfield 24, 3, 2, 4), (37, .putfield 24, 3, 2, 4), (40, .aload_n 0, 1, 0, 0), (41, .aload_n 1, 1, 0, 0), (42, .getfield 27, 3, 2, 5), (45, .putfield 27, 3, 2, 5), (48, .return_, 1, 0, 0)]
def ipc_13 : List (Nat × Instr × Nat × Nat × Nat) := [(0, .iload_n 1, 1, 0, 0), (1, .tableswitch 69 0 5 #[39, 44, 49, 54, 59, 64], 39, 0, 0), (40, .aload_n 0, 1, 0, 0), (41, .getfield 9, 3, 2, 0), (44, .ireturn, 1, 0, 0), (45, .aload_n 0, 1, 0, 0), (46, .getfield 15, 3, 2, 1), (49, .ireturn, 1, 0, 0), (50, .aload_n 0, 1, 0, 0), (51, .getfield 18, 3, 2, 2), (54, .ireturn, 1, 0, 0), (55, .aload_n 0, 1, 0, 0), (56, .getfield 21, 3, 2, 3), (59, .ireturn, 1, 0, 0), (60, .aload_n 0, 1, 0, 0), (61, .getfield 24, 3, 2, 4), (64, .ireturn, 1, 0, 0), (65, .aload_n 0, 1, 0, 0), (66, .getfield 27, 3, 2, 5), (69, .ireturn, 1, 0, 0), (70, .iconst (-1), 1, 0, 0), (71, .ireturn, 1, 0, 0)]
def ipc_14 : List (Nat × Instr × Nat × Nat × Nat) := [(0, .aload_n 0, 1, 0, 0), (1, .invokespecial 5, 3, 999, 0), (4, .aload_n 0, 1, 0, 0), (5, .bipush 31, 2, 0, 0), (7, .newarray .int, 2, 0, 0), (9, .putfield 11, 3, 3, 1), (12, .aload_n 0, 1, 0, 0), (13, .bipush 24, 2, 0, 0), (15, .newarray .int, 2, 0, 0), (17, .putfield 15, 3, 3, 2), (20, .aload_n 0, 1, 0, 0), (21, .bipush 62, 2, 0, 0), (23, .newarray .int, 2, 0, 0), (25, .putfield 18, 3, 3, 3), (28, .aload_n 0, 1, 0, 0), (29, .bipush 62, 2, 0, 0), (31, .newarray .long, 2, 1, 0), (33, .putfield 21, 3, 3, 4), (36, .aload_n 0, 1, 0, 0), (37, .bipush 62, 2, 0, 0), (39, .newarray .int, 2, 0, 0), (41, .putfield 25, 3, 3, 5), (44, .aload_n 0, 1, 0, 0), (45, .bipush 24, 2, 0, 0), (47, .newarray .int, 2, 0, 0), (49, .putfield 28, 3, 3, 6), (52, .aload_n 0, 1, 0, 0), (53, .bipush 100, 2, 0, 0), (55, .newarray .int, 2, 0, 0), (57, .putfield 31, 3, 3, 7), (60, .aload_n 0, 1, 0, 0), (61, .bipush 100, 2, 0, 0), (63, .newarray .int, 2, 0, 0), (65, .putfield 34, 3, 3, 8), (68, .aload_n 0, 1, 0, 0), (69, .aload_n 1, 1, 0, 0), (70, .putfield 37, 3, 3, 0), (73, .return_, 1, 0, 0)]
def ipc_15 : List (Nat × Instr × Nat × Nat × Nat) := [(0, .aload_n 0, 1, 0, 0), (1, .aload_n 1, 1, 0, 0), (2, .iload_n 2, 1, 0, 0), (3, .invokevirtual 41, 3, 16, 2), (6, .aload_n 0, 1, 0, 0), (7, .aload_n 1, 1, 0, 0), (8, .invokevirtual 45, 3, 17, 1), (11, .iconst 1, 1, 0, 0), (12, .istore_n 3, 1, 0, 0), (13, .iconst 0, 1, 0, 0), (14, .istore 4, 2, 0, 0), (16, .iload 4, 2, 0, 0), (18, .iconst 2, 1, 0, 0), (19, .if_icmp .ge 58, 3, 77, 0), (22, .iload_n 3, 1, 0, 0), (23, .ifCond .eq 54, 3, 77, 0), (26, .iconst 0, 1, 0, 0), (27, .istore 5, 2, 0, 0), (29, .iload 5, 2, 0, 0), (31, .aload_n 0, 1, 0, 0), (32, .getfield 49, 3, 3, 9), (35, .if_icmp .ge 21, 3, 56, 0), (38, .aload_n 0, 1, 0, 0), (39, .aload_n 1, 1, 0, 0), (40, .aload_n 0, 1, 0, 0), (41, .getfield 15, 3, 3, 2), (44, .iload 5, 2, 0, 0), (46, .iaload, 1, 0, 0), (47, .invokevirtual 53, 3, 19, 2), (50, .iinc 5 1, 3, 0, 0), (53, .goto (-24), 3, 29, 0), (56, .aload_n 0, 1, 0, 0), (57, .aload_n 1, 1, 0, 0), (58, .invokevirtual 56, 3, 20, 1), (61, .aload_n 0, 1, 0, 0), (62, .aload_n 1, 1, 0, 0), (63, .invokevirtual 59, 3, 24, 1), (66, .aload_n 0, 1, 0, 0), (67, .invokevirtual 62, 3, 18, 0), (70, .istore_n 3, 1, 0, 0), (71, .iinc 4 1, 3, 0, 0), (74, .goto (-58), 3, 16, 0), (77, .aload_n 0, 1, 0, 0), (78, .invokevirtual 66, 3, 26, 0), (81, .return_, 1, 0, 0)]
def ipc_16 : List (Nat × Instr × Nat × Nat × Nat) := [(0, .aload_n 0, 1, 0, 0), (1, .iconst 0, 1, 0, 0), (2, .putfield 49, 3, 3, 9), (5, .iconst 0, 1, 0, 0), (6, .istore_n 3, 1, 0, 0), (7, .iload_n 3, 1, 0, 0), (8, .aload_n 1, 1, 0, 0), (9, .getfield 69, 3, 6, 7), (12, .if_icmp .ge 38, 3, 50, 0), (15, .iload_n 2, 1, 0, 0), (16, .iload_n 3, 1, 0, 0), (17, .ishr, 1, 0, 0), (18, .iconst 1, 1, 0, 0), (19, .iand, 1, 0, 0), (20, .iconst 1, 1, 0, 0), (21, .if_icmp .ne 23, 3, 44, 0), (24, .aload_n 0, 1, 0, 0), (25, .getfield 15, 3, 3, 2), (28, .aload_n 0, 1, 0, 0), (29, .getfield 49, 3, 3, 9), (32, .iload_n 3, 1, 0, 0), (33, .iastore, 1, 0, 0), (34, .aload_n 0, 1, 0, 0), (35, .dup, 1, 0, 0), (36, .getfield 49, 3, 3, 9), (39, .iconst 1, 1, 0, 0), (40, .iadd, 1, 0, 0), (41, .putfield 49, 3, 3, 9), (44, .iinc 3 1, 3, 0, 0), (47, .goto (-40), 3, 7, 0), (50, .return_, 1, 0, 0)]
def ipc_17 : List (Nat × Instr × Nat × Nat × Nat) := [(0, .iconst 0, 1, 0, 0), (1, .istore_n 2, 1, 0, 0), (2, .iload_n 2, 1, 0, 0), (3, .aload_n 1, 1, 0, 0), (4, .getfield 74, 3, 6, 8), (7, .if_icmp .ge 88, 3, 95, 0), (10, .aload_n 1, 1, 0, 0), (11, .getfield 77, 3, 6, 4), (14, .iload_n 2, 1, 0, 0), (15, .iaload, 1, 0, 0), (16, .iconst 1, 1, 0, 0), (17, .if_icmp .le 27, 3, 44, 0), (20, .aload_n 0, 1, 0, 0), (21, .getfield 11, 3, 3, 1), (24, .iload_n 2, 1, 0, 0), (25, .aload_n 1, 1, 0, 0), (26, .getfield 77, 3, 6, 4), (29, .iload_n 2, 1, 0, 0), (30, .iaload, 1, 0, 0), (31, .iconst 3, 1, 0, 0), (32, .if_icmp .ne 7, 3, 39, 0), (35, .iconst 1, 1, 0, 0), (36, .goto 4, 3, 40, 0), (39, .iconst 2, 1, 0, 0), (40, .iastore, 1, 0, 0), (41, .goto 48, 3, 89, 0), (44, .aload_n 0, 1, 0, 0), (45, .getfield 37, 3, 3, 0), (48, .getfield 80, 3, 5, 0), (51, .iload_n 2, 1, 0, 0), (52, .iaload, 1, 0, 0), (53, .iconst 2, 1, 0, 0), (54, .if_icmp .ge 13, 3, 67, 0), (57, .aload_n 0, 1, 0, 0), (58, .getfield 11, 3, 3, 1), (61, .iload_n 2, 1, 0, 0), (62, .iconst 3, 1, 0, 0), (63, .iastore, 1, 0, 0), (64, .goto 25, 3, 89, 0), (67, .aload_n 0, 1, 0, 0), (68, .getfield 11, 3, 3, 1), (71, .iload_n 2, 1, 0, 0), (72, .aload_n 0, 1, 0, 0), (73, .getfield 37, 3, 3, 0), (76, .iload_n 2, 1, 0, 0), (77, .invokevirtual 85, 3, 32, 1), (80, .ifCond .eq 7, 3, 87, 0), (83, .iconst 4, 1, 0, 0), (84, .goto 4, 3, 88, 0), (87, .iconst 5, 1, 0, 0), (88, .iastore, 1, 0, 0), (89, .iinc 2 1, 3, 0, 0), (92, .goto (-90), 3, 2, 0), (95, .return_, 1, 0, 0)]
def ipc_18 : List (Nat × Instr × Nat × Nat × Nat) := [(0, .iconst 0, 1, 0, 0), (1, .istore_n 1, 1, 0, 0), (2, .iload_n 1, 1, 0, 0), (3, .aload_n 0, 1, 0, 0), (4, .getfield 89, 3, 3, 10), (7, .if_icmp .ge 36, 3, 43, 0), (10, .aload_n 0, 1, 0, 0), (11, .getfield 11, 3, 3, 1), (14, .aload_n 0, 1, 0, 0), (15, .getfield 31, 3, 3, 7), (18, .iload_n 1, 1, 0, 0), (19, .iaload, 1, 0, 0), (20, .iaload, 1, 0, 0), (21, .iconst 4, 1, 0, 0), (22, .if_icmp .lt 15, 3, 37, 0), (25, .aload_n 0, 1, 0, 0), (26, .getfield 11, 3, 3, 1), (29, .aload_n 0, 1, 0, 0), (30, .getfield 31, 3, 3, 7), (33, .iload_n 1, 1, 0, 0), (34, .iaload, 1, 0, 0), (35, .iconst 0, 1, 0, 0), (36, .iastore, 1, 0, 0), (37, .iinc 1 1, 3, 0, 0), (40, .goto (-38), 3, 2, 0), (43, .iconst 4, 1, 0, 0), (44, .istore_n 1, 1, 0, 0), (45, .iconst 0, 1, 0, 0), (46, .istore_n 2, 1, 0, 0), (47, .iload_n 2, 1, 0, 0), (48, .aload_n 0, 1, 0, 0), (49, .getfield 89, 3, 3, 10), (52, .if_icmp .ge 38, 3, 90, 0), (55, .aload_n 0, 1, 0, 0), (56, .getfield 11, 3, 3, 1), (59, .aload_n 0, 1, 0, 0), (60, .getfield 31, 3, 3, 7), (63, .iload_n 2, 1, 0, 0), (64, .iaload, 1, 0, 0), (65, .iaload, 1, 0, 0), (66, .ifCond .ne 18, 3, 84, 0), (69, .aload_n 0, 1, 0, 0), (70, .getfield 11, 3, 3, 1), (73, .aload_n 0, 1, 0, 0), (74, .getfield 31, 3, 3, 7), (77, .iload_n 2, 1, 0, 0), (78, .iaload, 1, 0, 0), (79, .iload_n 1, 1, 0, 0), (80, .iastore, 1, 0, 0), (81, .iinc 1 1, 3, 0, 0), (84, .iinc 2 1, 3, 0, 0), (87, .goto (-40), 3, 47, 0), (90, .iload_n 1, 1, 0, 0), (91, .iconst 4, 1, 0, 0), (92, .if_icmp .le 7, 3, 99, 0), (95, .iconst 1, 1, 0, 0), (96, .goto 4, 3, 100, 0), (99, .iconst 0, 1, 0, 0), (100, .ireturn, 1, 0, 0)]
def ipc_19 : List (Nat × Instr × Nat × Nat × Nat) := [(0, .aload_n 0, 1, 0, 0), (1, .aload_n 1, 1, 0, 0), (2, .iload_n 2, 1, 0, 0), (3, .iconst 0, 1, 0, 0), (4, .invokevirtual 92, 3, 21, 3), (7, .aload_n 0, 1, 0, 0), (8, .aload_n 1, 1, 0, 0), (9, .iload_n 2, 1, 0, 0), (10, .bipush 31, 2, 0, 0), (12, .invokevirtual 92, 3, 21, 3), (15, .aload_n 0, 1, 0, 0), (16, .getfield 28, 3, 3, 6), (19, .iload_n 2, 1, 0, 0), (20, .iconst 0, 1, 0, 0), (21, .iastore, 1, 0, 0), (22, .aload_n 0, 1, 0, 0), (23, .aload_n 1, 1, 0, 0), (24, .iload_n 2, 1, 0, 0), (25, .iload_n 2, 1, 0, 0), (26, .bipush 31, 2, 0, 0), (28, .invokevirtual 96, 3, 22, 4), (31, .ifCond .le 11, 3, 42, 0), (34, .aload_n 0, 1, 0, 0), (35, .getfield 28, 3, 3, 6), (38, .iload_n 2, 1, 0, 0), (39, .bipush 31, 2, 0, 0), (41, .iastore, 1, 0, 0), (42, .return_, 1, 0, 0)]
def ipc_20 : List (Nat × Instr × Nat × Nat × Nat) := [(0, .iconst 1, 1, 0, 0), (1, .istore_n 2, 1, 0, 0), (2, .iload_n 2, 1, 0, 0), (3, .aload_n 0, 1, 0, 0), (4, .getfield 49, 3, 3, 9), (7, .if_icmp .ge 78, 3, 85, 0), (10, .aload_n 0, 1, 0, 0), (11, .getfield 15, 3, 3, 2), (14, .iload_n 2, 1, 0, 0), (15, .iaload, 1, 0, 0), (16, .istore_n 3, 1, 0, 0), (17, .iload_n 2, 1, 0, 0), (18, .istore 4, 2, 0, 0), (20, .iload 4, 2, 0, 0), (22, .ifCond .le 49, 3, 71, 0), (25, .aload_n 0, 1, 0, 0), (26, .aload_n 1, 1, 0, 0), (27, .aload_n 0, 1, 0, 0), (28, .getfield 15, 3, 3, 2), (31, .iload 4, 2, 0, 0), (33, .iconst 1, 1, 0, 0), (34, .isub, 1, 0, 0), (35, .iaload, 1, 0, 0), (36, .iload_n 3, 1, 0, 0), (37, .aload_n 0, 1, 0, 0), (38, .getfield 28, 3, 3, 6), (41, .iload_n 3, 1, 0, 0), (42, .iaload, 1, 0, 0), (43, .invokevirtual 96, 3, 22, 4), (46, .ifCond .ge 25, 3, 71, 0), (49, .aload_n 0, 1, 0, 0), (50, .getfield 15, 3, 3, 2), (53, .iload 4, 2, 0, 0), (55, .aload_n 0, 1, 0, 0), (56, .getfield 15, 3, 3, 2), (59, .iload 4, 2, 0, 0), (61, .iconst 1, 1, 0, 0), (62, .isub, 1, 0, 0), (63, .iaload, 1, 0, 0), (64, .iastore, 1, 0, 0), (65, .iinc 4 (-1), 3, 0, 0), (68, .goto (-48), 3, 20, 0), (71, .aload_n 0, 1, 0, 0), (72, .getfield 15, 3, 3, 2), (75, .iload 4, 2, 0, 0), (77, .iload_n 3, 1, 0, 0), (78, .iastore, 1, 0, 0), (79, .iinc 2 1, 3, 0, 0), (82, .goto (-80), 3, 2, 0), (85, .return_, 1, 0, 0)]
def ipc_21 : List (Nat × Instr × Nat × Nat × Nat) := [(0, .aload_n 1, 1, 0, 0), (1, .getfield 100, 3, 6, 3), (4, .iload_n 2, 1, 0, 0), (5, .iaload, 1, 0, 0), (6, .istore 4, 2, 0, 0), (8, .iload 4, 2, 0, 0), (10, .aload_n 1, 1, 0, 0), (11, .getfield 100, 3, 6, 3), (14, .iload_n 2, 1, 0, 0), (15, .iconst 1, 1, 0, 0), (16, .iadd, 1, 0, 0), (17, .iaload, 1, 0, 0), (18, .if_icmp .ge 100, 3, 118, 0), (21, .aload_n 0, 1, 0, 0), (22, .aload_n 1, 1, 0, 0), (23, .iload 4, 2, 0, 0), (25, .iload_n 3, 1, 0, 0), (26, .invokevirtual 103, 3, 23, 3), (29, .iload 4, 2, 0, 0), (31, .istore 5, 2, 0, 0), (33, .iload 5, 2, 0, 0), (35, .aload_n 1, 1, 0, 0), (36, .getfield 100, 3, 6, 3), (39, .iload_n 2, 1, 0, 0), (40, .iaload, 1, 0, 0), (41, .if_icmp .le 60, 3, 101, 0), (44, .aload_n 0, 1, 0, 0), (45, .getfield 21, 3, 3, 4), (48, .iload_n 3, 1, 0, 0), (49, .aload_n 0, 1, 0, 0), (50, .getfield 18, 3, 3, 3), (53, .iload_n 3, 1, 0, 0), (54, .iload 5, 2, 0, 0), (56, .iadd, 1, 0, 0), (57, .iconst 1, 1, 0, 0), (58, .isub, 1, 0, 0), (59, .iaload, 1, 0, 0), (60, .iadd, 1, 0, 0), (61, .laload, 1, 0, 0), (62, .aload_n 0, 1, 0, 0), (63, .getfield 21, 3, 3, 4), (66, .iload_n 3, 1, 0, 0), (67, .iload 4, 2, 0, 0), (69, .iadd, 1, 0, 0), (70, .laload, 1, 0, 0), (71, .lcmp, 1, 0, 0), (72, .ifCond .le 29, 3, 101, 0), (75, .aload_n 0, 1, 0, 0), (76, .getfield 18, 3, 3, 3), (79, .iload_n 3, 1, 0, 0), (80, .iload 5, 2, 0, 0), (82, .iadd, 1, 0, 0), (83, .aload_n 0, 1, 0, 0), (84, .getfield 18, 3, 3, 3), (87, .iload_n 3, 1, 0, 0), (88, .iload 5, 2, 0, 0), (90, .iadd, 1, 0, 0), (91, .iconst 1, 1, 0, 0), (92, .isub, 1, 0, 0), (93, .iaload, 1, 0, 0), (94, .iastore, 1, 0, 0), (95, .iinc 5 (-1), 3, 0, 0), (98, .goto (-65), 3, 33, 0), (101, .aload_n 0, 1, 0, 0), (102, .getfield 18, 3, 3, 3), (105, .iload_n 3, 1, 0, 0), (106, .iload 5, 2, 0, 0), (108, .iadd, 1, 0, 0), (109, .iload 4, 2, 0, 0), (111, .iastore, 1, 0, 0), (112, .iinc 4 1, 3, 0, 0), (115, .goto (-107), 3, 8, 0), (118, .return_, 1, 0, 0)]
def ipc_22 : List (Nat × Instr × Nat × Nat × Nat) := [(0, .aload_n 0, 1, 0, 0), (1, .getfield 28, 3, 3, 6), (4, .iload_n 2, 1, 0, 0), (5, .iaload, 1, 0, 0), (6, .istore 5, 2, 0, 0), (8, .aload_n 1, 1, 0, 0), (9, .iload_n 2, 1, 0, 0), (10, .invokevirtual 106, 3, 39, 1), (13, .istore 6, 2, 0, 0), (15, .iload 6, 2, 0, 0), (17, .aload_n 1, 1, 0, 0), (18, .iload_n 3, 1, 0, 0), (19, .invokevirtual 106, 3, 39, 1), (22, .if_icmp .eq 12, 3, 34, 0), (25, .iload 6, 2, 0, 0), (27, .aload_n 1, 1, 0, 0), (28, .iload_n 3, 1, 0, 0), (29, .invokevirtual 106, 3, 39, 1), (32, .isub, 1, 0, 0), (33, .ireturn, 1, 0, 0), (34, .iconst 0, 1, 0, 0), (35, .istore 7, 2, 0, 0), (37, .iload 7, 2, 0, 0), (39, .iload 6, 2, 0, 0), (41, .if_icmp .ge 85, 3, 126, 0), (44, .aload_n 0, 1, 0, 0), (45, .getfield 21, 3, 3, 4), (48, .iload 5, 2, 0, 0), (50, .aload_n 0, 1, 0, 0), (51, .getfield 18, 3, 3, 3), (54, .iload 5, 2, 0, 0), (56, .aload_n 1, 1, 0, 0), (57, .getfield 100, 3, 6, 3), (60, .iload_n 2, 1, 0, 0), (61, .iaload, 1, 0, 0), (62, .iadd, 1, 0, 0), (63, .iload 7, 2, 0, 0), (65, .iadd, 1, 0, 0), (66, .iaload, 1, 0, 0), (67, .iadd, 1, 0, 0), (68, .laload, 1, 0, 0), (69, .lstore 8, 2, 0, 0), (71, .aload_n 0, 1, 0, 0), (72, .getfield 21, 3, 3, 4), (75, .iload 4, 2, 0, 0), (77, .aload_n 0, 1, 0, 0), (78, .getfield 18, 3, 3, 3), (81, .iload 4, 2, 0, 0), (83, .aload_n 1, 1, 0, 0), (84, .getfield 100, 3, 6, 3), (87, .iload_n 3, 1, 0, 0), (88, .iaload, 1, 0, 0), (89, .iadd, 1, 0, 0), (90, .iload 7, 2, 0, 0), (92, .iadd, 1, 0, 0), (93, .iaload, 1, 0, 0), (94, .iadd, 1, 0, 0), (95, .laload, 1, 0, 0), (96, .lstore 10, 2, 0, 0), (98, .lload 8, 2, 0, 0), (100, .lload 10, 2, 0, 0), (102, .lcmp, 1, 0, 0), (103, .ifCond .eq 17, 3, 120, 0), (106, .lload 8, 2, 0, 0), (108, .lload 10, 2, 0, 0), (110, .lcmp, 1, 0, 0), (111, .ifCond .ge 7, 3, 118, 0), (114, .iconst (-1), 1, 0, 0), (115, .goto 4, 3, 119, 0), (118, .iconst 1, 1, 0, 0), (119, .ireturn, 1, 0, 0), (120, .iinc 7 1, 3, 0, 0), (123, .goto (-86), 3, 37, 0), (126, .iconst 0, 1, 0, 0), (127, .ireturn, 1, 0, 0)]
def ipc_23 : List (Nat × Instr × Nat × Nat × Nat) := [(0, .aload_n 1, 1, 0, 0), (1, .getfield 110, 3, 6, 2), (4, .iload_n 2, 1, 0, 0), (5, .iaload, 1, 0, 0), (6, .istore 4, 2, 0, 0), (8, .aload_n 1, 1, 0, 0), (9, .iload_n 2, 1, 0, 0), (10, .invokevirtual 113, 3, 41, 1), (13, .istore 5, 2, 0, 0), (15, .lconst 0, 1, 0, 0), (16, .lstore 6, 2, 0, 0), (18, .iconst 0, 1, 0, 0), (19, .istore 8, 2, 0, 0), (21, .iload 8, 2, 0, 0), (23, .iload 5, 2, 0, 0), (25, .if_icmp .ge 53, 3, 78, 0), (28, .iload_n 3, 1, 0, 0), (29, .ifCond .ne 11, 3, 40, 0), (32, .iload 4, 2, 0, 0), (34, .iload 8, 2, 0, 0), (36, .iadd, 1, 0, 0), (37, .goto 13, 3, 50, 0), (40, .iload 4, 2, 0, 0), (42, .iload 5, 2, 0, 0), (44, .iadd, 1, 0, 0), (45, .iconst 1, 1, 0, 0), (46, .isub, 1, 0, 0), (47, .iload 8, 2, 0, 0), (49, .isub, 1, 0, 0), (50, .istore 9, 2, 0, 0), (52, .lload 6, 2, 0, 0), (54, .iconst 4, 1, 0, 0), (55, .lshl, 1, 0, 0), (56, .aload_n 0, 1, 0, 0), (57, .getfield 11, 3, 3, 1), (60, .aload_n 1, 1, 0, 0), (61, .getfield 116, 3, 6, 1), (64, .iload 9, 2, 0, 0), (66, .iaload, 1, 0, 0), (67, .iaload, 1, 0, 0), (68, .i2l, 1, 0, 0), (69, .lor, 1, 0, 0), (70, .lstore 6, 2, 0, 0), (72, .iinc 8 1, 3, 0, 0), (75, .goto (-54), 3, 21, 0), (78, .iconst 4, 1, 0, 0), (79, .iload 5, 2, 0, 0), (81, .iconst 1, 1, 0, 0), (82, .isub, 1, 0, 0), (83, .imul, 1, 0, 0), (84, .istore 8, 2, 0, 0), (86, .lload 6, 2, 0, 0), (88, .lstore 9, 2, 0, 0), (90, .iconst 0, 1, 0, 0), (91, .istore 11, 2, 0, 0), (93, .iconst 1, 1, 0, 0), (94, .istore 12, 2, 0, 0), (96, .iload 12, 2, 0, 0), (98, .iload 5, 2, 0, 0), (100, .if_icmp .ge 47, 3, 147, 0), (103, .lload 6, 2, 0, 0), (105, .iload 8, 2, 0, 0), (107, .lushr, 1, 0, 0), (108, .lstore 13, 2, 0, 0), (110, .lload 6, 2, 0, 0), (112, .lload 13, 2, 0, 0), (114, .iload 8, 2, 0, 0), (116, .lshl, 1, 0, 0), (117, .lxor, 1, 0, 0), (118, .iconst 4, 1, 0, 0), (119, .lshl, 1, 0, 0), (120, .lload 13, 2, 0, 0), (122, .lor, 1, 0, 0), (123, .lstore 6, 2, 0, 0), (125, .lload 6, 2, 0, 0), (127, .lload 9, 2, 0, 0), (129, .lcmp, 1, 0, 0), (130, .ifCond .ge 11, 3, 141, 0), (133, .lload 6, 2, 0, 0), (135, .lstore 9, 2, 0, 0), (137, .iload 12, 2, 0, 0), (139, .istore 11, 2, 0, 0), (141, .iinc 12 1, 3, 0, 0), (144, .goto (-48), 3, 96, 0), (147, .aload_n 0, 1, 0, 0), (148, .getfield 21, 3, 3, 4), (151, .iload_n 3, 1, 0, 0), (152, .iload_n 2, 1, 0, 0), (153, .iadd, 1, 0, 0), (154, .lload 9, 2, 0, 0), (156, .lastore, 1, 0, 0), (157, .aload_n 0, 1, 0, 0), (158, .getfield 25, 3, 3, 5), (161, .iload_n 3, 1, 0, 0), (162, .iload_n 2, 1, 0, 0), (163, .iadd, 1, 0, 0), (164, .iload_n 3, 1, 0, 0), (165, .ifCond .ne 8, 3, 173, 0), (168, .iload 11, 2, 0, 0), (170, .goto 10, 3, 180, 0), (173, .iload 5, 2, 0, 0), (175, .iconst 1, 1, 0, 0), (176, .isub, 1, 0, 0), (177, .iload 11, 2, 0, 0), (179, .isub, 1, 0, 0), (180, .iastore, 1, 0, 0), (181, .return_, 1, 0, 0)]
def ipc_24 : List (Nat × Instr × Nat × Nat × Nat) := [(0, .aload_n 0, 1, 0, 0), (1, .iconst 0, 1, 0, 0), (2, .putfield 89, 3, 3, 10), (5, .iconst 0, 1, 0, 0), (6, .istore_n 2, 1, 0, 0), (7, .iload_n 2, 1, 0, 0), (8, .aload_n 0, 1, 0, 0), (9, .getfield 49, 3, 3, 9), (12, .if_icmp .ge 86, 3, 98, 0), (15, .aload_n 0, 1, 0, 0), (16, .getfield 15, 3, 3, 2), (19, .iload_n 2, 1, 0, 0), (20, .iaload, 1, 0, 0), (21, .istore_n 3, 1, 0, 0), (22, .aload_n 1, 1, 0, 0), (23, .getfield 100, 3, 6, 3), (26, .iload_n 3, 1, 0, 0), (27, .iconst 1, 1, 0, 0), (28, .iadd, 1, 0, 0), (29, .iaload, 1, 0, 0), (30, .iconst 1, 1, 0, 0), (31, .isub, 1, 0, 0), (32, .istore 4, 2, 0, 0), (34, .aload_n 1, 1, 0, 0), (35, .getfield 100, 3, 6, 3), (38, .iload_n 3, 1, 0, 0), (39, .iaload, 1, 0, 0), (40, .istore 5, 2, 0, 0), (42, .iload 5, 2, 0, 0), (44, .iload 4, 2, 0, 0), (46, .if_icmp .gt 46, 3, 92, 0), (49, .aload_n 0, 1, 0, 0), (50, .aload_n 1, 1, 0, 0), (51, .aload_n 0, 1, 0, 0), (52, .getfield 18, 3, 3, 3), (55, .aload_n 0, 1, 0, 0), (56, .getfield 28, 3, 3, 6), (59, .iload_n 3, 1, 0, 0), (60, .iaload, 1, 0, 0), (61, .iload 5, 2, 0, 0), (63, .iadd, 1, 0, 0), (64, .iaload, 1, 0, 0), (65, .aload_n 0, 1, 0, 0), (66, .getfield 28, 3, 3, 6), (69, .iload_n 3, 1, 0, 0), (70, .iaload, 1, 0, 0), (71, .iload 5, 2, 0, 0), (73, .iload 4, 2, 0, 0), (75, .if_icmp .ge 7, 3, 82, 0), (78, .iconst 1, 1, 0, 0), (79, .goto 4, 3, 83, 0), (82, .iconst 2, 1, 0, 0), (83, .invokevirtual 119, 3, 25, 4), (86, .iinc 5 1, 3, 0, 0), (89, .goto (-47), 3, 42, 0), (92, .iinc 2 1, 3, 0, 0), (95, .goto (-88), 3, 7, 0), (98, .return_, 1, 0, 0)]
def ipc_25 : List (Nat × Instr × Nat × Nat × Nat) := [(0, .aload_n 1, 1, 0, 0), (1, .getfield 110, 3, 6, 2), (4, .iload_n 2, 1, 0, 0), (5, .iaload, 1, 0, 0), (6, .istore 5, 2, 0, 0), (8, .aload_n 1, 1, 0, 0), (9, .iload_n 2, 1, 0, 0), (10, .invokevirtual 113, 3, 41, 1), (13, .istore 6, 2, 0, 0), (15, .aload_n 0, 1, 0, 0), (16, .getfield 25, 3, 3, 5), (19, .iload_n 3, 1, 0, 0), (20, .iload_n 2, 1, 0, 0), (21, .iadd, 1, 0, 0), (22, .iaload, 1, 0, 0), (23, .istore 7, 2, 0, 0), (25, .iconst 0, 1, 0, 0), (26, .istore 8, 2, 0, 0), (28, .iload 8, 2, 0, 0), (30, .iload 6, 2, 0, 0), (32, .if_icmp .ge 106, 3, 138, 0), (35, .aload_n 0, 1, 0, 0), (36, .getfield 31, 3, 3, 7), (39, .aload_n 0, 1, 0, 0), (40, .getfield 89, 3, 3, 10), (43, .aload_n 1, 1, 0, 0), (44, .getfield 116, 3, 6, 1), (47, .iload 5, 2, 0, 0), (49, .iload 7, 2, 0, 0), (51, .iadd, 1, 0, 0), (52, .iaload, 1, 0, 0), (53, .iastore, 1, 0, 0), (54, .aload_n 0, 1, 0, 0), (55, .getfield 34, 3, 3, 8), (58, .aload_n 0, 1, 0, 0), (59, .getfield 89, 3, 3, 10), (62, .iload 8, 2, 0, 0), (64, .iload 6, 2, 0, 0), (66, .iconst 1, 1, 0, 0), (67, .isub, 1, 0, 0), (68, .if_icmp .ge 7, 3, 75, 0), (71, .iconst 0, 1, 0, 0), (72, .goto 5, 3, 77, 0), (75, .iload 4, 2, 0, 0), (77, .iastore, 1, 0, 0), (78, .aload_n 0, 1, 0, 0), (79, .dup, 1, 0, 0), (80, .getfield 89, 3, 3, 10), (83, .iconst 1, 1, 0, 0), (84, .iadd, 1, 0, 0), (85, .putfield 89, 3, 3, 10), (88, .iload_n 3, 1, 0, 0), (89, .ifCond .ne 25, 3, 114, 0), (92, .iload 7, 2, 0, 0), (94, .iconst 1, 1, 0, 0), (95, .iadd, 1, 0, 0), (96, .iload 6, 2, 0, 0), (98, .if_icmp .ge 10, 3, 108, 0), (101, .iload 7, 2, 0, 0), (103, .iconst 1, 1, 0, 0), (104, .iadd, 1, 0, 0), (105, .goto 4, 3, 109, 0), (108, .iconst 0, 1, 0, 0), (109, .istore 7, 2, 0, 0), (111, .goto 21, 3, 132, 0), (114, .iload 7, 2, 0, 0), (116, .ifCond .le 10, 3, 126, 0), (119, .iload 7, 2, 0, 0), (121, .iconst 1, 1, 0, 0), (122, .isub, 1, 0, 0), (123, .goto 7, 3, 130, 0), (126, .iload 6, 2, 0, 0), (128, .iconst 1, 1, 0, 0), (129, .isub, 1, 0, 0), (130, .istore 7, 2, 0, 0), (132, .iinc 8 1, 3, 0, 0), (135, .goto (-107), 3, 28, 0), (138, .return_, 1, 0, 0)]
def ipc_26 : List (Nat × Instr × Nat × Nat × Nat) := [(0, .aload_n 0, 1, 0, 0), (1, .lconst 0, 1, 0, 0), (2, .putfield 123, 3, 3, 11), (5, .aload_n 0, 1, 0, 0), (6, .lconst 0, 1, 0, 0), (7, .putfield 127, 3, 3, 12), (10, .iconst 0, 1, 0, 0), (11, .istore_n 1, 1, 0, 0), (12, .iload_n 1, 1, 0, 0), (13, .aload_n 0, 1, 0, 0), (14, .getfield 89, 3, 3, 10), (17, .if_icmp .ge 73, 3, 90, 0), (20, .aload_n 0, 1, 0, 0), (21, .getfield 11, 3, 3, 1), (24, .aload_n 0, 1, 0, 0), (25, .getfield 31, 3, 3, 7), (28, .iload_n 1, 1, 0, 0), (29, .iaload, 1, 0, 0), (30, .iaload, 1, 0, 0), (31, .iconst 2, 1, 0, 0), (32, .ishl, 1, 0, 0), (33, .aload_n 0, 1, 0, 0), (34, .getfield 34, 3, 3, 8), (37, .iload_n 1, 1, 0, 0), (38, .iaload, 1, 0, 0), (39, .ior, 1, 0, 0), (40, .i2l, 1, 0, 0), (41, .lstore_n 2, 1, 0, 0), (42, .iload_n 1, 1, 0, 0), (43, .bipush 10, 2, 0, 0), (45, .if_icmp .ge 21, 3, 66, 0), (48, .aload_n 0, 1, 0, 0), (49, .dup, 1, 0, 0), (50, .getfield 123, 3, 3, 11), (53, .lload_n 2, 1, 0, 0), (54, .bipush 6, 2, 0, 0), (56, .iload_n 1, 1, 0, 0), (57, .imul, 1, 0, 0), (58, .lshl, 1, 0, 0), (59, .lor, 1, 0, 0), (60, .putfield 123, 3, 3, 11), (63, .goto 21, 3, 84, 0), (66, .aload_n 0, 1, 0, 0), (67, .dup, 1, 0, 0), (68, .getfield 127, 3, 3, 12), (71, .lload_n 2, 1, 0, 0), (72, .bipush 6, 2, 0, 0), (74, .iload_n 1, 1, 0, 0), (75, .bipush 10, 2, 0, 0), (77, .isub, 1, 0, 0), (78, .imul, 1, 0, 0), (79, .lshl, 1, 0, 0), (80, .lor, 1, 0, 0), (81, .putfield 127, 3, 3, 12), (84, .iinc 1 1, 3, 0, 0), (87, .goto (-75), 3, 12, 0), (90, .return_, 1, 0, 0)]
def ipc_27 : List (Nat × Instr × Nat × Nat × Nat) := [(0, .aload_n 0, 1, 0, 0), (1, .invokespecial 3, 3, 999, 0), (4, .aload_n 0, 1, 0, 0), (5, .bipush 23, 2, 0, 0), (7, .anewarray 9, 3, 4, 0), (10, .putfield 11, 3, 4, 0), (13, .iconst 0, 1, 0, 0), (14, .istore_n 1, 1, 0, 0), (15, .iload_n 1, 1, 0, 0), (16, .bipush 23, 2, 0, 0), (18, .if_icmp .ge 22, 3, 40, 0), (21, .aload_n 0, 1, 0, 0), (22, .getfield 11, 3, 4, 0), (25, .iload_n 1, 1, 0, 0), (26, .new 9, 3, 2, 0), (29, .dup, 1, 0, 0), (30, .invokespecial 17, 3, 10, 0), (33, .aastore, 1, 0, 0), (34, .iinc 1 1, 3, 0, 0), (37, .goto (-22), 3, 15, 0), (40, .return_, 1, 0, 0)]
def ipc_28 : List (Nat × Instr × Nat × Nat × Nat) := [(0, .aload_n 0, 1, 0, 0), (1, .aload_n 1, 1, 0, 0), (2, .getfield 18, 3, 4, 1), (5, .putfield 18, 3, 4, 1), (8, .aload_n 0, 1, 0, 0), (9, .aload_n 1, 1, 0, 0), (10, .getfield 22, 3, 4, 2), (13, .putfield 22, 3, 4, 2), (16, .iconst 0, 1, 0, 0), (17, .istore_n 2, 1, 0, 0), (18, .iload_n 2, 1, 0, 0), (19, .aload_n 0, 1, 0, 0), (20, .getfield 22, 3, 4, 2), (23, .if_icmp .ge 24, 3, 47, 0), (26, .aload_n 0, 1, 0, 0), (27, .getfield 11, 3, 4, 0), (30, .iload_n 2, 1, 0, 0), (31, .aaload, 1, 0, 0), (32, .aload_n 1, 1, 0, 0), (33, .getfield 11, 3, 4, 0), (36, .iload_n 2, 1, 0, 0), (37, .aaload, 1, 0, 0), (38, .invokevirtual 25, 3, 12, 1), (41, .iinc 2 1, 3, 0, 0), (44, .goto (-26), 3, 18, 0), (47, .return_, 1, 0, 0)]
def ipc_29 : List (Nat × Instr × Nat × Nat × Nat) := [(0, .aload_n 0, 1, 0, 0), (1, .invokespecial 3, 3, 999, 0), (4, .aload_n 0, 1, 0, 0), (5, .bipush 31, 2, 0, 0), (7, .newarray .int, 2, 0, 0), (9, .putfield 9, 3, 5, 0), (12, .aload_n 0, 1, 0, 0), (13, .bipush 31, 2, 0, 0), (15, .newarray .int, 2, 0, 0), (17, .putfield 15, 3, 5, 1), (20, .aload_n 0, 1, 0, 0), (21, .bipush 31, 2, 0, 0), (23, .newarray .int, 2, 0, 0), (25, .putfield 18, 3, 5, 2), (28, .aload_n 0, 1, 0, 0), (29, .bipush 24, 2, 0, 0), (31, .newarray .int, 2, 0, 0), (33, .putfield 21, 3, 5, 3), (36, .return_, 1, 0, 0)]
def ipc_30 : List (Nat × Instr × Nat × Nat × Nat) := [(0, .iconst 0, 1, 0, 0), (1, .istore_n 2, 1, 0, 0), (2, .iload_n 2, 1, 0, 0), (3, .aload_n 1, 1, 0, 0), (4, .getfield 24, 3, 6, 8), (7, .if_icmp .ge 16, 3, 23, 0), (10, .aload_n 0, 1, 0, 0), (11, .getfield 9, 3, 5, 0), (14, .iload_n 2, 1, 0, 0), (15, .iconst 0, 1, 0, 0), (16, .iastore, 1, 0, 0), (17, .iinc 2 1, 3, 0, 0), (20, .goto (-18), 3, 2, 0), (23, .iconst 0, 1, 0, 0), (24, .istore_n 2, 1, 0, 0), (25, .iload_n 2, 1, 0, 0), (26, .aload_n 1, 1, 0, 0), (27, .getfield 30, 3, 6, 7), (30, .if_icmp .ge 64, 3, 94, 0), (33, .aload_n 0, 1, 0, 0), (34, .getfield 21, 3, 5, 3), (37, .iload_n 2, 1, 0, 0), (38, .iconst 1, 1, 0, 0), (39, .iload_n 2, 1, 0, 0), (40, .ishl, 1, 0, 0), (41, .iastore, 1, 0, 0), (42, .aload_n 1, 1, 0, 0), (43, .getfield 33, 3, 6, 2), (46, .aload_n 1, 1, 0, 0), (47, .getfield 36, 3, 6, 3), (50, .iload_n 2, 1, 0, 0), (51, .iaload, 1, 0, 0), (52, .iaload, 1, 0, 0), (53, .istore_n 3, 1, 0, 0), (54, .iload_n 3, 1, 0, 0), (55, .aload_n 1, 1, 0, 0), (56, .getfield 33, 3, 6, 2), (59, .aload_n 1, 1, 0, 0), (60, .getfield 36, 3, 6, 3), (63, .iload_n 2, 1, 0, 0), (64, .iconst 1, 1, 0, 0), (65, .iadd, 1, 0, 0), (66, .iaload, 1, 0, 0), (67, .iaload, 1, 0, 0), (68, .if_icmp .ge 20, 3, 88, 0), (71, .aload_n 0, 1, 0, 0), (72, .aload_n 1, 1, 0, 0), (73, .getfield 39, 3, 6, 1), (76, .iload_n 3, 1, 0, 0), (77, .iaload, 1, 0, 0), (78, .iload_n 2, 1, 0, 0), (79, .invokevirtual 42, 3, 31, 2), (82, .iinc 3 1, 3, 0, 0), (85, .goto (-31), 3, 54, 0), (88, .iinc 2 1, 3, 0, 0), (91, .goto (-66), 3, 25, 0), (94, .aload_n 0, 1, 0, 0), (95, .iconst 1, 1, 0, 0), (96, .aload_n 1, 1, 0, 0), (97, .getfield 30, 3, 6, 7), (100, .ishl, 1, 0, 0), (101, .iconst 1, 1, 0, 0), (102, .isub, 1, 0, 0), (103, .putfield 46, 3, 5, 4), (106, .return_, 1, 0, 0)]
def ipc_31 : List (Nat × Instr × Nat × Nat × Nat) := [(0, .aload_n 0, 1, 0, 0), (1, .getfield 9, 3, 5, 0), (4, .iload_n 1, 1, 0, 0), (5, .dup2, 1, 0, 0), (6, .iaload, 1, 0, 0), (7, .iconst 1, 1, 0, 0), (8, .iadd, 1, 0, 0), (9, .iastore, 1, 0, 0), (10, .aload_n 0, 1, 0, 0), (11, .getfield 18, 3, 5, 2), (14, .iload_n 1, 1, 0, 0), (15, .iload_n 2, 1, 0, 0), (16, .iastore, 1, 0, 0), (17, .aload_n 0, 1, 0, 0), (18, .getfield 9, 3, 5, 0), (21, .iload_n 1, 1, 0, 0), (22, .iaload, 1, 0, 0), (23, .iconst 1, 1, 0, 0), (24, .if_icmp .ne 13, 3, 37, 0), (27, .aload_n 0, 1, 0, 0), (28, .getfield 15, 3, 5, 1), (31, .iload_n 1, 1, 0, 0), (32, .iload_n 2, 1, 0, 0), (33, .iastore, 1, 0, 0), (34, .goto 37, 3, 71, 0), (37, .aload_n 0, 1, 0, 0), (38, .getfield 21, 3, 5, 3), (41, .iload_n 2, 1, 0, 0), (42, .dup2, 1, 0, 0), (43, .iaload, 1, 0, 0), (44, .iconst 1, 1, 0, 0), (45, .aload_n 0, 1, 0, 0), (46, .getfield 15, 3, 5, 1), (49, .iload_n 1, 1, 0, 0), (50, .iaload, 1, 0, 0), (51, .ishl, 1, 0, 0), (52, .ior, 1, 0, 0), (53, .iastore, 1, 0, 0), (54, .aload_n 0, 1, 0, 0), (55, .getfield 21, 3, 5, 3), (58, .aload_n 0, 1, 0, 0), (59, .getfield 15, 3, 5, 1), (62, .iload_n 1, 1, 0, 0), (63, .iaload, 1, 0, 0), (64, .dup2, 1, 0, 0), (65, .iaload, 1, 0, 0), (66, .iconst 1, 1, 0, 0), (67, .iload_n 2, 1, 0, 0), (68, .ishl, 1, 0, 0), (69, .ior, 1, 0, 0), (70, .iastore, 1, 0, 0), (71, .return_, 1, 0, 0)]
def ipc_32 : List (Nat × Instr × Nat × Nat × Nat) := [(0, .aload_n 0, 1, 0, 0), (1, .getfield 9, 3, 5, 0), (4, .iload_n 1, 1, 0, 0), (5, .iaload, 1, 0, 0), (6, .iconst 2, 1, 0, 0), (7, .if_icmp .ne 22, 3, 29, 0), (10, .aload_n 0, 1, 0, 0), (11, .getfield 15, 3, 5, 1), (14, .iload_n 1, 1, 0, 0), (15, .iaload, 1, 0, 0), (16, .aload_n 0, 1, 0, 0), (17, .getfield 18, 3, 5, 2), (20, .iload_n 1, 1, 0, 0), (21, .iaload, 1, 0, 0), (22, .if_icmp .ne 7, 3, 29, 0), (25, .iconst 1, 1, 0, 0), (26, .goto 4, 3, 30, 0), (29, .iconst 0, 1, 0, 0), (30, .ireturn, 1, 0, 0)]
def ipc_33 : List (Nat × Instr × Nat × Nat × Nat) := [(0, .aload_n 0, 1, 0, 0), (1, .getfield 46, 3, 5, 4), (4, .aload_n 0, 1, 0, 0), (5, .getfield 46, 3, 5, 4), (8, .ineg, 1, 0, 0), (9, .iand, 1, 0, 0), (10, .istore_n 2, 1, 0, 0), (11, .iconst 0, 1, 0, 0), (12, .istore_n 3, 1, 0, 0), (13, .iload_n 3, 1, 0, 0), (14, .iload_n 1, 1, 0, 0), (15, .if_icmp .ge 56, 3, 71, 0), (18, .iload_n 2, 1, 0, 0), (19, .istore 4, 2, 0, 0), (21, .iconst 0, 1, 0, 0), (22, .istore 5, 2, 0, 0), (24, .iload 5, 2, 0, 0), (26, .iload_n 1, 1, 0, 0), (27, .if_icmp .ge 29, 3, 56, 0), (30, .iload_n 2, 1, 0, 0), (31, .iload 5, 2, 0, 0), (33, .ishr, 1, 0, 0), (34, .iconst 1, 1, 0, 0), (35, .iand, 1, 0, 0), (36, .iconst 1, 1, 0, 0), (37, .if_icmp .ne 13, 3, 50, 0), (40, .iload_n 2, 1, 0, 0), (41, .aload_n 0, 1, 0, 0), (42, .getfield 21, 3, 5, 3), (45, .iload 5, 2, 0, 0), (47, .iaload, 1, 0, 0), (48, .ior, 1, 0, 0), (49, .istore_n 2, 1, 0, 0), (50, .iinc 5 1, 3, 0, 0), (53, .goto (-29), 3, 24, 0), (56, .iload_n 2, 1, 0, 0), (57, .iload 4, 2, 0, 0), (59, .if_icmp .ne 6, 3, 65, 0), (62, .goto 9, 3, 71, 0), (65, .iinc 3 1, 3, 0, 0), (68, .goto (-55), 3, 13, 0), (71, .aload_n 0, 1, 0, 0), (72, .dup, 1, 0, 0), (73, .getfield 46, 3, 5, 4), (76, .iload_n 2, 1, 0, 0), (77, .iconst (-1), 1, 0, 0), (78, .ixor, 1, 0, 0), (79, .iand, 1, 0, 0), (80, .putfield 46, 3, 5, 4), (83, .iload_n 2, 1, 0, 0), (84, .ireturn, 1, 0, 0)]
def ipc_34 : List (Nat × Instr × Nat × Nat × Nat) := [(0, .iconst 0, 1, 0, 0), (1, .istore_n 3, 1, 0, 0), (2, .iconst 0, 1, 0, 0), (3, .istore 4, 2, 0, 0), (5, .iload 4, 2, 0, 0), (7, .aload_n 2, 1, 0, 0), (8, .getfield 24, 3, 6, 8), (11, .if_icmp .ge 44, 3, 55, 0), (14, .aload_n 0, 1, 0, 0), (15, .getfield 9, 3, 5, 0), (18, .iload 4, 2, 0, 0), (20, .iaload, 1, 0, 0), (21, .ifCond .le 28, 3, 49, 0), (24, .iload_n 1, 1, 0, 0), (25, .aload_n 0, 1, 0, 0), (26, .getfield 15, 3, 5, 1), (29, .iload 4, 2, 0, 0), (31, .iaload, 1, 0, 0), (32, .ishr, 1, 0, 0), (33, .iconst 1, 1, 0, 0), (34, .iand, 1, 0, 0), (35, .iconst 1, 1, 0, 0), (36, .if_icmp .ne 13, 3, 49, 0), (39, .iload_n 3, 1, 0, 0), (40, .aload_n 2, 1, 0, 0), (41, .getfield 49, 3, 6, 4), (44, .iload 4, 2, 0, 0), (46, .iaload, 1, 0, 0), (47, .iadd, 1, 0, 0), (48, .istore_n 3, 1, 0, 0), (49, .iinc 4 1, 3, 0, 0), (52, .goto (-47), 3, 5, 0), (55, .iload_n 3, 1, 0, 0), (56, .ireturn, 1, 0, 0)]
def ipc_35 : List (Nat × Instr × Nat × Nat × Nat) := [(0, .aload_n 0, 1, 0, 0), (1, .invokespecial 3, 3, 999, 0), (4, .aload_n 0, 1, 0, 0), (5, .bipush 100, 2, 0, 0), (7, .newarray .int, 2, 0, 0), (9, .putfield 9, 3, 6, 1), (12, .aload_n 0, 1, 0, 0), (13, .bipush 32, 2, 0, 0), (15, .newarray .int, 2, 0, 0), (17, .putfield 15, 3, 6, 2), (20, .aload_n 0, 1, 0, 0), (21, .bipush 25, 2, 0, 0), (23, .newarray .int, 2, 0, 0), (25, .putfield 18, 3, 6, 3), (28, .aload_n 0, 1, 0, 0), (29, .bipush 31, 2, 0, 0), (31, .newarray .int, 2, 0, 0), (33, .putfield 21, 3, 6, 4), (36, .aload_n 0, 1, 0, 0), (37, .iload_n 1, 1, 0, 0), (38, .putfield 24, 3, 6, 0), (41, .return_, 1, 0, 0)]
def ipc_36 : List (Nat × Instr × Nat × Nat × Nat) := [(0, .iload_n 1, 1, 0, 0), (1, .ifCond .lt 15, 3, 16, 0), (4, .iload_n 1, 1, 0, 0), (5, .aload_n 0, 1, 0, 0), (6, .getfield 28, 3, 6, 7), (9, .if_icmp .ge 7, 3, 16, 0), (12, .iconst 1, 1, 0, 0), (13, .goto 4, 3, 17, 0), (16, .iconst 0, 1, 0, 0), (17, .ireturn, 1, 0, 0)]
def ipc_37 : List (Nat × Instr × Nat × Nat × Nat) := [(0, .aload_n 0, 1, 0, 0), (1, .iload_n 1, 1, 0, 0), (2, .invokevirtual 32, 3, 36, 1), (5, .ifCond .eq 20, 3, 25, 0), (8, .iload_n 2, 1, 0, 0), (9, .ifCond .lt 16, 3, 25, 0), (12, .iload_n 2, 1, 0, 0), (13, .aload_n 0, 1, 0, 0), (14, .iload_n 1, 1, 0, 0), (15, .invokevirtual 36, 3, 39, 1), (18, .if_icmp .ge 7, 3, 25, 0), (21, .iconst 1, 1, 0, 0), (22, .goto 4, 3, 26, 0), (25, .iconst 0, 1, 0, 0), (26, .ireturn, 1, 0, 0)]
def ipc_38 : List (Nat × Instr × Nat × Nat × Nat) := [(0, .aload_n 0, 1, 0, 0), (1, .iload_n 1, 1, 0, 0), (2, .iload_n 2, 1, 0, 0), (3, .invokevirtual 40, 3, 37, 2), (6, .ifCond .eq 21, 3, 27, 0), (9, .iload_n 3, 1, 0, 0), (10, .ifCond .lt 17, 3, 27, 0), (13, .iload_n 3, 1, 0, 0), (14, .aload_n 0, 1, 0, 0), (15, .iload_n 1, 1, 0, 0), (16, .iload_n 2, 1, 0, 0), (17, .invokevirtual 44, 3, 40, 2), (20, .if_icmp .ge 7, 3, 27, 0), (23, .iconst 1, 1, 0, 0), (24, .goto 4, 3, 28, 0), (27, .iconst 0, 1, 0, 0), (28, .ireturn, 1, 0, 0)]
def ipc_39 : List (Nat × Instr × Nat × Nat × Nat) := [(0, .aload_n 0, 1, 0, 0), (1, .getfield 18, 3, 6, 3), (4, .iload_n 1, 1, 0, 0), (5, .iconst 1, 1, 0, 0), (6, .iadd, 1, 0, 0), (7, .iaload, 1, 0, 0), (8, .aload_n 0, 1, 0, 0), (9, .getfield 18, 3, 6, 3), (12, .iload_n 1, 1, 0, 0), (13, .iaload, 1, 0, 0), (14, .isub, 1, 0, 0), (15, .ireturn, 1, 0, 0)]
def ipc_40 : List (Nat × Instr × Nat × Nat × Nat) := [(0, .aload_n 0, 1, 0, 0), (1, .aload_n 0, 1, 0, 0), (2, .getfield 18, 3, 6, 3), (5, .iload_n 1, 1, 0, 0), (6, .iaload, 1, 0, 0), (7, .iload_n 2, 1, 0, 0), (8, .iadd, 1, 0, 0), (9, .invokevirtual 48, 3, 41, 1), (12, .ireturn, 1, 0, 0)]
def ipc_41 : List (Nat × Instr × Nat × Nat × Nat) := [(0, .aload_n 0, 1, 0, 0), (1, .getfield 15, 3, 6, 2), (4, .iload_n 1, 1, 0, 0), (5, .iconst 1, 1, 0, 0), (6, .iadd, 1, 0, 0), (7, .iaload, 1, 0, 0), (8, .aload_n 0, 1, 0, 0), (9, .getfield 15, 3, 6, 2), (12, .iload_n 1, 1, 0, 0), (13, .iaload, 1, 0, 0), (14, .isub, 1, 0, 0), (15, .ireturn, 1, 0, 0)]
def ipc_42 : List (Nat × Instr × Nat × Nat × Nat) := [(0, .aload_n 0, 1, 0, 0), (1, .getfield 9, 3, 6, 1), (4, .aload_n 0, 1, 0, 0), (5, .getfield 15, 3, 6, 2), (8, .aload_n 0, 1, 0, 0), (9, .getfield 18, 3, 6, 3), (12, .iload_n 1, 1, 0, 0), (13, .iaload, 1, 0, 0), (14, .iload_n 2, 1, 0, 0), (15, .iadd, 1, 0, 0), (16, .iaload, 1, 0, 0), (17, .iload_n 3, 1, 0, 0), (18, .iadd, 1, 0, 0), (19, .iaload, 1, 0, 0), (20, .ireturn, 1, 0, 0)]
def ipc_43 : List (Nat × Instr × Nat × Nat × Nat) := [(0, .iload_n 1, 1, 0, 0), (1, .iload_n 2, 1, 0, 0), (2, .if_icmp .ne 21, 3, 23, 0), (5, .aload_n 0, 1, 0, 0), (6, .getfield 21, 3, 6, 4), (9, .iload_n 1, 1, 0, 0), (10, .iaload, 1, 0, 0), (11, .iconst 2, 1, 0, 0), (12, .if_icmp .lt 7, 3, 19, 0), (15, .iconst 1, 1, 0, 0), (16, .goto 32, 3, 48, 0), (19, .iconst 0, 1, 0, 0), (20, .goto 28, 3, 48, 0), (23, .aload_n 0, 1, 0, 0), (24, .getfield 21, 3, 6, 4), (27, .iload_n 1, 1, 0, 0), (28, .iaload, 1, 0, 0), (29, .iconst 1, 1, 0, 0), (30, .if_icmp .lt 17, 3, 47, 0), (33, .aload_n 0, 1, 0, 0), (34, .getfield 21, 3, 6, 4), (37, .iload_n 2, 1, 0, 0), (38, .iaload, 1, 0, 0), (39, .iconst 1, 1, 0, 0), (40, .if_icmp .lt 7, 3, 47, 0), (43, .iconst 1, 1, 0, 0), (44, .goto 4, 3, 48, 0), (47, .iconst 0, 1, 0, 0), (48, .ireturn, 1, 0, 0)]
def ipc_44 : List (Nat × Instr × Nat × Nat × Nat) := [(0, .aload_n 1, 1, 0, 0), (1, .getfield 51, 3, 2, 1), (4, .aload_n 1, 1, 0, 0), (5, .getfield 56, 3, 2, 3), (8, .if_icmp .ne 18, 3, 26, 0), (11, .iconst 1, 1, 0, 0), (12, .aload_n 0, 1, 0, 0), (13, .aload_n 1, 1, 0, 0), (14, .getfield 59, 3, 2, 0), (17, .invokevirtual 36, 3, 39, 1), (20, .iconst 1, 1, 0, 0), (21, .isub, 1, 0, 0), (22, .ishl, 1, 0, 0), (23, .goto 4, 3, 27, 0), (26, .iconst 1, 1, 0, 0), (27, .ireturn, 1, 0, 0)]
def ipc_45 : List (Nat × Instr × Nat × Nat × Nat) := [(0, .aload_n 0, 1, 0, 0), (1, .aload_n 1, 1, 0, 0), (2, .getfield 59, 3, 2, 0), (5, .aload_n 1, 1, 0, 0), (6, .getfield 51, 3, 2, 1), (9, .aload_n 1, 1, 0, 0), (10, .getfield 62, 3, 2, 2), (13, .invokevirtual 65, 3, 38, 3), (16, .ifCond .eq 22, 3, 38, 0), (19, .aload_n 0, 1, 0, 0), (20, .aload_n 1, 1, 0, 0), (21, .getfield 59, 3, 2, 0), (24, .aload_n 1, 1, 0, 0), (25, .getfield 56, 3, 2, 3), (28, .aload_n 1, 1, 0, 0), (29, .getfield 69, 3, 2, 4), (32, .invokevirtual 65, 3, 38, 3), (35, .ifCond .ne 5, 3, 40, 0), (38, .iconst 0, 1, 0, 0), (39, .ireturn, 1, 0, 0), (40, .aload_n 1, 1, 0, 0), (41, .getfield 51, 3, 2, 1), (44, .aload_n 1, 1, 0, 0), (45, .getfield 56, 3, 2, 3), (48, .if_icmp .gt 25, 3, 73, 0), (51, .aload_n 1, 1, 0, 0), (52, .getfield 51, 3, 2, 1), (55, .aload_n 1, 1, 0, 0), (56, .getfield 56, 3, 2, 3), (59, .if_icmp .ne 16, 3, 75, 0), (62, .aload_n 1, 1, 0, 0), (63, .getfield 62, 3, 2, 2), (66, .aload_n 1, 1, 0, 0), (67, .getfield 69, 3, 2, 4), (70, .if_icmp .le 5, 3, 75, 0), (73, .iconst 0, 1, 0, 0), (74, .ireturn, 1, 0, 0), (75, .aload_n 1, 1, 0, 0), (76, .getfield 72, 3, 2, 5), (79, .ifCond .lt 15, 3, 94, 0), (82, .aload_n 1, 1, 0, 0), (83, .getfield 72, 3, 2, 5), (86, .aload_n 0, 1, 0, 0), (87, .aload_n 1, 1, 0, 0), (88, .invokevirtual 75, 3, 44, 1), (91, .if_icmp .lt 5, 3, 96, 0), (94, .iconst 0, 1, 0, 0), (95, .ireturn, 1, 0, 0), (96, .aload_n 0, 1, 0, 0), (97, .aload_n 0, 1, 0, 0), (98, .aload_n 1, 1, 0, 0), (99, .getfield 59, 3, 2, 0), (102, .aload_n 1, 1, 0, 0), (103, .getfield 51, 3, 2, 1), (106, .aload_n 1, 1, 0, 0), (107, .getfield 62, 3, 2, 2), (110, .invokevirtual 79, 3, 42, 3), (113, .aload_n 0, 1, 0, 0), (114, .aload_n 1, 1, 0, 0), (115, .getfield 59, 3, 2, 0), (118, .aload_n 1, 1, 0, 0), (119, .getfield 56, 3, 2, 3), (122, .aload_n 1, 1, 0, 0), (123, .getfield 69, 3, 2, 4), (126, .invokevirtual 79, 3, 42, 3), (129, .invokevirtual 83, 3, 43, 2), (132, .ireturn, 1, 0, 0)]
def ipc_46 : List (Nat × Instr × Nat × Nat × Nat) := [(0, .aload_n 1, 1, 0, 0), (1, .dup, 1, 0, 0), (2, .getfield 69, 3, 2, 4), (5, .iconst 1, 1, 0, 0), (6, .iadd, 1, 0, 0), (7, .putfield 69, 3, 2, 4), (10, .aload_n 1, 1, 0, 0), (11, .getfield 59, 3, 2, 0), (14, .aload_n 0, 1, 0, 0), (15, .getfield 28, 3, 6, 7), (18, .if_icmp .ge 134, 3, 152, 0), (21, .aload_n 1, 1, 0, 0), (22, .getfield 51, 3, 2, 1), (25, .aload_n 0, 1, 0, 0), (26, .aload_n 1, 1, 0, 0), (27, .getfield 59, 3, 2, 0), (30, .invokevirtual 36, 3, 39, 1), (33, .if_icmp .ge 96, 3, 129, 0), (36, .aload_n 1, 1, 0, 0), (37, .getfield 62, 3, 2, 2), (40, .aload_n 0, 1, 0, 0), (41, .aload_n 1, 1, 0, 0), (42, .getfield 59, 3, 2, 0), (45, .aload_n 1, 1, 0, 0), (46, .getfield 51, 3, 2, 1), (49, .invokevirtual 44, 3, 40, 2), (52, .if_icmp .ge 44, 3, 96, 0), (55, .aload_n 0, 1, 0, 0), (56, .aload_n 1, 1, 0, 0), (57, .invokevirtual 86, 3, 47, 1), (60, .ifCond .eq 5, 3, 65, 0), (63, .iconst 1, 1, 0, 0), (64, .ireturn, 1, 0, 0), (65, .aload_n 1, 1, 0, 0), (66, .aload_n 1, 1, 0, 0), (67, .getfield 51, 3, 2, 1), (70, .putfield 56, 3, 2, 3), (73, .aload_n 1, 1, 0, 0), (74, .aload_n 1, 1, 0, 0), (75, .getfield 62, 3, 2, 2), (78, .iconst 1, 1, 0, 0), (79, .iadd, 1, 0, 0), (80, .putfield 69, 3, 2, 4), (83, .aload_n 1, 1, 0, 0), (84, .dup, 1, 0, 0), (85, .getfield 62, 3, 2, 2), (88, .iconst 1, 1, 0, 0), (89, .iadd, 1, 0, 0), (90, .putfield 62, 3, 2, 2), (93, .goto (-57), 3, 36, 0), (96, .aload_n 1, 1, 0, 0), (97, .iconst 0, 1, 0, 0), (98, .putfield 62, 3, 2, 2), (101, .aload_n 1, 1, 0, 0), (102, .aload_n 1, 1, 0, 0), (103, .getfield 51, 3, 2, 1), (106, .iconst 1, 1, 0, 0), (107, .iadd, 1, 0, 0), (108, .putfield 56, 3, 2, 3), (111, .aload_n 1, 1, 0, 0), (112, .iconst 0, 1, 0, 0), (113, .putfield 69, 3, 2, 4), (116, .aload_n 1, 1, 0, 0), (117, .dup, 1, 0, 0), (118, .getfield 51, 3, 2, 1), (121, .iconst 1, 1, 0, 0), (122, .iadd, 1, 0, 0), (123, .putfield 51, 3, 2, 1), (126, .goto (-105), 3, 21, 0), (129, .aload_n 1, 1, 0, 0), (130, .iconst 0, 1, 0, 0), (131, .putfield 51, 3, 2, 1), (134, .aload_n 1, 1, 0, 0), (135, .iconst 0, 1, 0, 0), (136, .putfield 56, 3, 2, 3), (139, .aload_n 1, 1, 0, 0), (140, .dup, 1, 0, 0), (141, .getfield 59, 3, 2, 0), (144, .iconst 1, 1, 0, 0), (145, .iadd, 1, 0, 0), (146, .putfield 59, 3, 2, 0), (149, .goto (-139), 3, 10, 0), (152, .iconst 0, 1, 0, 0), (153, .ireturn, 1, 0, 0)]
def ipc_47 : List (Nat × Instr × Nat × Nat × Nat) := [(0, .aload_n 0, 1, 0, 0), (1, .aload_n 1, 1, 0, 0), (2, .getfield 59, 3, 2, 0), (5, .aload_n 1, 1, 0, 0), (6, .getfield 51, 3, 2, 1), (9, .aload_n 1, 1, 0, 0), (10, .getfield 62, 3, 2, 2), (13, .invokevirtual 79, 3, 42, 3), (16, .istore_n 2, 1, 0, 0), (17, .aload_n 0, 1, 0, 0), (18, .getfield 21, 3, 6, 4), (21, .iload_n 2, 1, 0, 0), (22, .iaload, 1, 0, 0), (23, .ifCond .ne 5, 3, 28, 0), (26, .iconst 0, 1, 0, 0), (27, .ireturn, 1, 0, 0), (28, .aload_n 1, 1, 0, 0), (29, .getfield 56, 3, 2, 3), (32, .aload_n 0, 1, 0, 0), (33, .aload_n 1, 1, 0, 0), (34, .getfield 59, 3, 2, 0), (37, .invokevirtual 36, 3, 39, 1), (40, .if_icmp .ge 79, 3, 119, 0), (43, .aload_n 1, 1, 0, 0), (44, .getfield 69, 3, 2, 4), (47, .aload_n 0, 1, 0, 0), (48, .aload_n 1, 1, 0, 0), (49, .getfield 59, 3, 2, 0), (52, .aload_n 1, 1, 0, 0), (53, .getfield 56, 3, 2, 3), (56, .invokevirtual 44, 3, 40, 2), (59, .if_icmp .ge 42, 3, 101, 0), (62, .aload_n 0, 1, 0, 0), (63, .iload_n 2, 1, 0, 0), (64, .aload_n 0, 1, 0, 0), (65, .aload_n 1, 1, 0, 0), (66, .getfield 59, 3, 2, 0), (69, .aload_n 1, 1, 0, 0), (70, .getfield 56, 3, 2, 3), (73, .aload_n 1, 1, 0, 0), (74, .getfield 69, 3, 2, 4), (77, .invokevirtual 79, 3, 42, 3), (80, .invokevirtual 83, 3, 43, 2), (83, .ifCond .eq 5, 3, 88, 0), (86, .iconst 1, 1, 0, 0), (87, .ireturn, 1, 0, 0), (88, .aload_n 1, 1, 0, 0), (89, .dup, 1, 0, 0), (90, .getfield 69, 3, 2, 4), (93, .iconst 1, 1, 0, 0), (94, .iadd, 1, 0, 0), (95, .putfield 69, 3, 2, 4), (98, .goto (-55), 3, 43, 0), (101, .aload_n 1, 1, 0, 0), (102, .iconst 0, 1, 0, 0), (103, .putfield 69, 3, 2, 4), (106, .aload_n 1, 1, 0, 0), (107, .dup, 1, 0, 0), (108, .getfield 56, 3, 2, 3), (111, .iconst 1, 1, 0, 0), (112, .iadd, 1, 0, 0), (113, .putfield 56, 3, 2, 3), (116, .goto (-88), 3, 28, 0), (119, .iconst 0, 1, 0, 0), (120, .ireturn, 1, 0, 0)]
def ipc_48 : List (Nat × Instr × Nat × Nat × Nat) := [(0, .iload_n 1, 1, 0, 0), (1, .ifCond .ge 5, 3, 6, 0), (4, .iconst 0, 1, 0, 0), (5, .ireturn, 1, 0, 0), (6, .iload_n 1, 1, 0, 0), (7, .istore_n 3, 1, 0, 0), (8, .aload_n 2, 1, 0, 0), (9, .invokevirtual 90, 3, 11, 0), (12, .iconst 0, 1, 0, 0), (13, .istore 4, 2, 0, 0), (15, .iload 4, 2, 0, 0), (17, .ldc 93, 2, 1000000, 0), (19, .if_icmp .ge 42, 3, 61, 0), (22, .aload_n 0, 1, 0, 0), (23, .aload_n 2, 1, 0, 0), (24, .invokevirtual 94, 3, 46, 1), (27, .ifCond .eq 34, 3, 61, 0), (30, .aload_n 0, 1, 0, 0), (31, .aload_n 2, 1, 0, 0), (32, .invokevirtual 75, 3, 44, 1), (35, .istore 5, 2, 0, 0), (37, .iload_n 3, 1, 0, 0), (38, .iload 5, 2, 0, 0), (40, .if_icmp .ge 10, 3, 50, 0), (43, .aload_n 2, 1, 0, 0), (44, .iload_n 3, 1, 0, 0), (45, .putfield 72, 3, 2, 5), (48, .iconst 1, 1, 0, 0), (49, .ireturn, 1, 0, 0), (50, .iload_n 3, 1, 0, 0), (51, .iload 5, 2, 0, 0), (53, .isub, 1, 0, 0), (54, .istore_n 3, 1, 0, 0), (55, .iinc 4 1, 3, 0, 0), (58, .goto (-43), 3, 15, 0), (61, .iconst 0, 1, 0, 0), (62, .ireturn, 1, 0, 0)]
def ipc_49 : List (Nat × Instr × Nat × Nat × Nat) := [(0, .aload_n 0, 1, 0, 0), (1, .iconst 0, 1, 0, 0), (2, .putfield 97, 3, 6, 5), (5, .aload_n 0, 1, 0, 0), (6, .iconst 0, 1, 0, 0), (7, .putfield 100, 3, 6, 6), (10, .aload_n 0, 1, 0, 0), (11, .iconst 0, 1, 0, 0), (12, .putfield 28, 3, 6, 7), (15, .aload_n 0, 1, 0, 0), (16, .iconst 0, 1, 0, 0), (17, .putfield 103, 3, 6, 8), (20, .aload_n 0, 1, 0, 0), (21, .iconst 0, 1, 0, 0), (22, .putfield 106, 3, 6, 9), (25, .aload_n 0, 1, 0, 0), (26, .iconst 0, 1, 0, 0), (27, .putfield 109, 3, 6, 10), (30, .return_, 1, 0, 0)]
def ipc_50 : List (Nat × Instr × Nat × Nat × Nat) := [(0, .aload_n 0, 1, 0, 0), (1, .getfield 103, 3, 6, 8), (4, .aload_n 0, 1, 0, 0), (5, .getfield 21, 3, 6, 4), (8, .arraylength, 1, 0, 0), (9, .if_icmp .ge 33, 3, 42, 0), (12, .aload_n 0, 1, 0, 0), (13, .getfield 21, 3, 6, 4), (16, .aload_n 0, 1, 0, 0), (17, .getfield 103, 3, 6, 8), (20, .iload_n 1, 1, 0, 0), (21, .iastore, 1, 0, 0), (22, .aload_n 0, 1, 0, 0), (23, .dup, 1, 0, 0), (24, .getfield 103, 3, 6, 8), (27, .iconst 1, 1, 0, 0), (28, .iadd, 1, 0, 0), (29, .putfield 103, 3, 6, 8), (32, .aload_n 0, 1, 0, 0), (33, .dup, 1, 0, 0), (34, .getfield 109, 3, 6, 10), (37, .iload_n 1, 1, 0, 0), (38, .iadd, 1, 0, 0), (39, .putfield 109, 3, 6, 10), (42, .return_, 1, 0, 0)]
def ipc_51 : List (Nat × Instr × Nat × Nat × Nat) := [(0, .aload_n 0, 1, 0, 0), (1, .invokevirtual 112, 3, 49, 0), (4, .iconst 0, 1, 0, 0), (5, .istore_n 2, 1, 0, 0), (6, .iload_n 2, 1, 0, 0), (7, .iload_n 1, 1, 0, 0), (8, .if_icmp .ge 23, 3, 31, 0), (11, .aload_n 0, 1, 0, 0), (12, .iconst 3, 1, 0, 0), (13, .invokevirtual 115, 3, 50, 1), (16, .aload_n 0, 1, 0, 0), (17, .iload_n 2, 1, 0, 0), (18, .invokevirtual 119, 3, 61, 1), (21, .aload_n 0, 1, 0, 0), (22, .invokevirtual 122, 3, 62, 0), (25, .iinc 2 1, 3, 0, 0), (28, .goto (-22), 3, 6, 0), (31, .aload_n 0, 1, 0, 0), (32, .invokevirtual 125, 3, 63, 0), (35, .aload_n 0, 1, 0, 0), (36, .iload_n 1, 1, 0, 0), (37, .putfield 106, 3, 6, 9), (40, .return_, 1, 0, 0)]
def ipc_52 : List (Nat × Instr × Nat × Nat × Nat) := [(0, .aload_n 0, 1, 0, 0), (1, .invokevirtual 112, 3, 49, 0), (4, .aload_n 1, 1, 0, 0), (5, .getfield 21, 3, 6, 4), (8, .iconst 0, 1, 0, 0), (9, .aload_n 0, 1, 0, 0), (10, .getfield 21, 3, 6, 4), (13, .iconst 0, 1, 0, 0), (14, .aload_n 1, 1, 0, 0), (15, .getfield 103, 3, 6, 8), (18, .invokestatic 128, 3, 998, 0), (21, .aload_n 0, 1, 0, 0), (22, .aload_n 1, 1, 0, 0), (23, .getfield 103, 3, 6, 8), (26, .putfield 103, 3, 6, 8), (29, .aload_n 0, 1, 0, 0), (30, .aload_n 1, 1, 0, 0), (31, .getfield 106, 3, 6, 9), (34, .putfield 106, 3, 6, 9), (37, .aload_n 0, 1, 0, 0), (38, .aload_n 1, 1, 0, 0), (39, .getfield 109, 3, 6, 10), (42, .putfield 109, 3, 6, 10), (45, .return_, 1, 0, 0)]
def ipc_53 : List (Nat × Instr × Nat × Nat × Nat) := [(0, .aload_n 0, 1, 0, 0), (1, .aload_n 1, 1, 0, 0), (2, .invokevirtual 134, 3, 52, 1), (5, .iconst 0, 1, 0, 0), (6, .istore_n 2, 1, 0, 0), (7, .iload_n 2, 1, 0, 0), (8, .aload_n 1, 1, 0, 0), (9, .getfield 28, 3, 6, 7), (12, .if_icmp .ge 15, 3, 27, 0), (15, .aload_n 0, 1, 0, 0), (16, .aload_n 1, 1, 0, 0), (17, .iload_n 2, 1, 0, 0), (18, .invokevirtual 138, 3, 56, 2), (21, .iinc 2 1, 3, 0, 0), (24, .goto (-17), 3, 7, 0), (27, .return_, 1, 0, 0)]
def ipc_54 : List (Nat × Instr × Nat × Nat × Nat) := [(0, .aload_n 0, 1, 0, 0), (1, .aload_n 1, 1, 0, 0), (2, .invokevirtual 134, 3, 52, 1), (5, .aload_n 0, 1, 0, 0), (6, .aload_n 1, 1, 0, 0), (7, .aload_n 2, 1, 0, 0), (8, .getfield 59, 3, 2, 0), (11, .aload_n 2, 1, 0, 0), (12, .getfield 51, 3, 2, 1), (15, .aload_n 2, 1, 0, 0), (16, .getfield 62, 3, 2, 2), (19, .invokevirtual 79, 3, 42, 3), (22, .invokevirtual 142, 3, 55, 1), (25, .aload_n 0, 1, 0, 0), (26, .aload_n 1, 1, 0, 0), (27, .aload_n 2, 1, 0, 0), (28, .getfield 59, 3, 2, 0), (31, .aload_n 2, 1, 0, 0), (32, .getfield 56, 3, 2, 3), (35, .aload_n 2, 1, 0, 0), (36, .getfield 69, 3, 2, 4), (39, .invokevirtual 79, 3, 42, 3), (42, .invokevirtual 142, 3, 55, 1), (45, .aload_n 0, 1, 0, 0), (46, .iconst 1, 1, 0, 0), (47, .invokevirtual 115, 3, 50, 1), (50, .aload_n 2, 1, 0, 0), (51, .getfield 51, 3, 2, 1), (54, .aload_n 2, 1, 0, 0), (55, .getfield 56, 3, 2, 3), (58, .if_icmp .eq 13, 3, 71, 0), (61, .aload_n 0, 1, 0, 0), (62, .dup, 1, 0, 0), (63, .getfield 106, 3, 6, 9), (66, .iconst 1, 1, 0, 0), (67, .isub, 1, 0, 0), (68, .putfield 106, 3, 6, 9), (71, .iconst 0, 1, 0, 0), (72, .istore_n 3, 1, 0, 0), (73, .iload_n 3, 1, 0, 0), (74, .aload_n 1, 1, 0, 0), (75, .getfield 28, 3, 6, 7), (78, .if_icmp .ge 53, 3, 131, 0), (81, .iload_n 3, 1, 0, 0), (82, .aload_n 2, 1, 0, 0), (83, .getfield 59, 3, 2, 0), (86, .if_icmp .eq 12, 3, 98, 0), (89, .aload_n 0, 1, 0, 0), (90, .aload_n 1, 1, 0, 0), (91, .iload_n 3, 1, 0, 0), (92, .invokevirtual 138, 3, 56, 2), (95, .goto 30, 3, 125, 0), (98, .aload_n 2, 1, 0, 0), (99, .getfield 51, 3, 2, 1), (102, .aload_n 2, 1, 0, 0), (103, .getfield 56, 3, 2, 3), (106, .if_icmp .eq 12, 3, 118, 0), (109, .aload_n 0, 1, 0, 0), (110, .aload_n 1, 1, 0, 0), (111, .aload_n 2, 1, 0, 0), (112, .invokevirtual 145, 3, 59, 2), (115, .goto 10, 3, 125, 0), (118, .aload_n 0, 1, 0, 0), (119, .aload_n 1, 1, 0, 0), (120, .aload_n 2, 1, 0, 0), (121, .iconst 0, 1, 0, 0), (122, .invokevirtual 149, 3, 60, 3), (125, .iinc 3 1, 3, 0, 0), (128, .goto (-55), 3, 73, 0), (131, .aload_n 2, 1, 0, 0), (132, .getfield 51, 3, 2, 1), (135, .aload_n 2, 1, 0, 0), (136, .getfield 56, 3, 2, 3), (139, .if_icmp .ne 10, 3, 149, 0), (142, .aload_n 0, 1, 0, 0), (143, .aload_n 1, 1, 0, 0), (144, .aload_n 2, 1, 0, 0), (145, .iconst 1, 1, 0, 0), (146, .invokevirtual 149, 3, 60, 3), (149, .return_, 1, 0, 0)]
def ipc_55 : List (Nat × Instr × Nat × Nat × Nat) := [(0, .aload_n 0, 1, 0, 0), (1, .getfield 21, 3, 6, 4), (4, .iload_n 1, 1, 0, 0), (5, .dup2, 1, 0, 0), (6, .iaload, 1, 0, 0), (7, .iconst 1, 1, 0, 0), (8, .isub, 1, 0, 0), (9, .iastore, 1, 0, 0), (10, .aload_n 0, 1, 0, 0), (11, .dup, 1, 0, 0), (12, .getfield 109, 3, 6, 10), (15, .iconst 1, 1, 0, 0), (16, .isub, 1, 0, 0), (17, .putfield 109, 3, 6, 10), (20, .return_, 1, 0, 0)]
def ipc_56 : List (Nat × Instr × Nat × Nat × Nat) := [(0, .aload_n 1, 1, 0, 0), (1, .getfield 18, 3, 6, 3), (4, .iload_n 2, 1, 0, 0), (5, .iaload, 1, 0, 0), (6, .istore_n 3, 1, 0, 0), (7, .iload_n 3, 1, 0, 0), (8, .aload_n 1, 1, 0, 0), (9, .getfield 18, 3, 6, 3), (12, .iload_n 2, 1, 0, 0), (13, .iconst 1, 1, 0, 0), (14, .iadd, 1, 0, 0), (15, .iaload, 1, 0, 0), (16, .if_icmp .ge 25, 3, 41, 0), (19, .aload_n 0, 1, 0, 0), (20, .aload_n 1, 1, 0, 0), (21, .iload_n 3, 1, 0, 0), (22, .iconst 0, 1, 0, 0), (23, .aload_n 1, 1, 0, 0), (24, .iload_n 3, 1, 0, 0), (25, .invokevirtual 48, 3, 41, 1), (28, .invokevirtual 153, 3, 57, 4), (31, .aload_n 0, 1, 0, 0), (32, .invokevirtual 122, 3, 62, 0), (35, .iinc 3 1, 3, 0, 0), (38, .goto (-31), 3, 7, 0), (41, .aload_n 0, 1, 0, 0), (42, .invokevirtual 125, 3, 63, 0), (45, .return_, 1, 0, 0)]
def ipc_57 : List (Nat × Instr × Nat × Nat × Nat) := [(0, .aload_n 1, 1, 0, 0), (1, .getfield 15, 3, 6, 2), (4, .iload_n 2, 1, 0, 0), (5, .iaload, 1, 0, 0), (6, .istore 5, 2, 0, 0), (8, .aload_n 1, 1, 0, 0), (9, .iload_n 2, 1, 0, 0), (10, .invokevirtual 48, 3, 41, 1), (13, .istore 6, 2, 0, 0), (15, .iload_n 3, 1, 0, 0), (16, .istore 7, 2, 0, 0), (18, .iconst 0, 1, 0, 0), (19, .istore 8, 2, 0, 0), (21, .iload 8, 2, 0, 0), (23, .iload 4, 2, 0, 0), (25, .if_icmp .ge 42, 3, 67, 0), (28, .aload_n 0, 1, 0, 0), (29, .aload_n 1, 1, 0, 0), (30, .getfield 9, 3, 6, 1), (33, .iload 5, 2, 0, 0), (35, .iload 7, 2, 0, 0), (37, .iadd, 1, 0, 0), (38, .iaload, 1, 0, 0), (39, .invokevirtual 119, 3, 61, 1), (42, .iload 7, 2, 0, 0), (44, .iconst 1, 1, 0, 0), (45, .iadd, 1, 0, 0), (46, .iload 6, 2, 0, 0), (48, .if_icmp .ge 10, 3, 58, 0), (51, .iload 7, 2, 0, 0), (53, .iconst 1, 1, 0, 0), (54, .iadd, 1, 0, 0), (55, .goto 4, 3, 59, 0), (58, .iconst 0, 1, 0, 0), (59, .istore 7, 2, 0, 0), (61, .iinc 8 1, 3, 0, 0), (64, .goto (-43), 3, 21, 0), (67, .return_, 1, 0, 0)]
def ipc_58 : List (Nat × Instr × Nat × Nat × Nat) := [(0, .aload_n 0, 1, 0, 0), (1, .getfield 21, 3, 6, 4), (4, .aload_n 0, 1, 0, 0), (5, .getfield 9, 3, 6, 1), (8, .aload_n 0, 1, 0, 0), (9, .getfield 15, 3, 6, 2), (12, .iload_n 1, 1, 0, 0), (13, .iaload, 1, 0, 0), (14, .iload_n 2, 1, 0, 0), (15, .iadd, 1, 0, 0), (16, .iaload, 1, 0, 0), (17, .iaload, 1, 0, 0), (18, .iconst 3, 1, 0, 0), (19, .if_icmp .ne 7, 3, 26, 0), (22, .iconst 1, 1, 0, 0), (23, .goto 10, 3, 33, 0), (26, .aload_n 0, 1, 0, 0), (27, .iload_n 1, 1, 0, 0), (28, .invokevirtual 48, 3, 41, 1), (31, .iconst 1, 1, 0, 0), (32, .iadd, 1, 0, 0), (33, .ireturn, 1, 0, 0)]
def ipc_59 : List (Nat × Instr × Nat × Nat × Nat) := [(0, .aload_n 1, 1, 0, 0), (1, .getfield 18, 3, 6, 3), (4, .aload_n 2, 1, 0, 0), (5, .getfield 59, 3, 2, 0), (8, .iaload, 1, 0, 0), (9, .istore_n 3, 1, 0, 0), (10, .aload_n 1, 1, 0, 0), (11, .getfield 103, 3, 6, 8), (14, .istore 4, 2, 0, 0), (16, .iload_n 3, 1, 0, 0), (17, .istore 5, 2, 0, 0), (19, .iload 5, 2, 0, 0), (21, .aload_n 1, 1, 0, 0), (22, .getfield 18, 3, 6, 3), (25, .aload_n 2, 1, 0, 0), (26, .getfield 59, 3, 2, 0), (29, .iconst 1, 1, 0, 0), (30, .iadd, 1, 0, 0), (31, .iaload, 1, 0, 0), (32, .if_icmp .ge 118, 3, 150, 0), (35, .iload 5, 2, 0, 0), (37, .iload_n 3, 1, 0, 0), (38, .aload_n 2, 1, 0, 0), (39, .getfield 51, 3, 2, 1), (42, .iadd, 1, 0, 0), (43, .if_icmp .ne 72, 3, 115, 0), (46, .aload_n 0, 1, 0, 0), (47, .aload_n 1, 1, 0, 0), (48, .iload 5, 2, 0, 0), (50, .aload_n 2, 1, 0, 0), (51, .getfield 62, 3, 2, 2), (54, .aload_n 1, 1, 0, 0), (55, .iload 5, 2, 0, 0), (57, .aload_n 2, 1, 0, 0), (58, .getfield 62, 3, 2, 2), (61, .invokevirtual 157, 3, 58, 2), (64, .invokevirtual 153, 3, 57, 4), (67, .aload_n 0, 1, 0, 0), (68, .iload 4, 2, 0, 0), (70, .invokevirtual 119, 3, 61, 1), (73, .aload_n 0, 1, 0, 0), (74, .aload_n 1, 1, 0, 0), (75, .iload_n 3, 1, 0, 0), (76, .aload_n 2, 1, 0, 0), (77, .getfield 56, 3, 2, 3), (80, .iadd, 1, 0, 0), (81, .aload_n 2, 1, 0, 0), (82, .getfield 69, 3, 2, 4), (85, .aload_n 1, 1, 0, 0), (86, .iload_n 3, 1, 0, 0), (87, .aload_n 2, 1, 0, 0), (88, .getfield 56, 3, 2, 3), (91, .iadd, 1, 0, 0), (92, .aload_n 2, 1, 0, 0), (93, .getfield 69, 3, 2, 4), (96, .invokevirtual 157, 3, 58, 2), (99, .invokevirtual 153, 3, 57, 4), (102, .aload_n 0, 1, 0, 0), (103, .iload 4, 2, 0, 0), (105, .invokevirtual 119, 3, 61, 1), (108, .aload_n 0, 1, 0, 0), (109, .invokevirtual 122, 3, 62, 0), (112, .goto 32, 3, 144, 0), (115, .iload 5, 2, 0, 0), (117, .iload_n 3, 1, 0, 0), (118, .aload_n 2, 1, 0, 0), (119, .getfield 56, 3, 2, 3), (122, .iadd, 1, 0, 0), (123, .if_icmp .eq 21, 3, 144, 0), (126, .aload_n 0, 1, 0, 0), (127, .aload_n 1, 1, 0, 0), (128, .iload 5, 2, 0, 0), (130, .iconst 0, 1, 0, 0), (131, .aload_n 1, 1, 0, 0), (132, .iload 5, 2, 0, 0), (134, .invokevirtual 48, 3, 41, 1), (137, .invokevirtual 153, 3, 57, 4), (140, .aload_n 0, 1, 0, 0), (141, .invokevirtual 122, 3, 62, 0), (144, .iinc 5 1, 3, 0, 0), (147, .goto (-128), 3, 19, 0), (150, .aload_n 0, 1, 0, 0), (151, .invokevirtual 125, 3, 63, 0), (154, .return_, 1, 0, 0)]
def ipc_60 : List (Nat × Instr × Nat × Nat × Nat) := [(0, .aload_n 1, 1, 0, 0), (1, .getfield 18, 3, 6, 3), (4, .aload_n 2, 1, 0, 0), (5, .getfield 59, 3, 2, 0), (8, .iaload, 1, 0, 0), (9, .istore 4, 2, 0, 0), (11, .iload 4, 2, 0, 0), (13, .aload_n 2, 1, 0, 0), (14, .getfield 51, 3, 2, 1), (17, .iadd, 1, 0, 0), (18, .istore 5, 2, 0, 0), (20, .aload_n 2, 1, 0, 0), (21, .getfield 69, 3, 2, 4), (24, .aload_n 2, 1, 0, 0), (25, .getfield 62, 3, 2, 2), (28, .isub, 1, 0, 0), (29, .iconst 1, 1, 0, 0), (30, .iadd, 1, 0, 0), (31, .istore 6, 2, 0, 0), (33, .iload_n 3, 1, 0, 0), (34, .ifCond .ne 19, 3, 53, 0), (37, .aload_n 0, 1, 0, 0), (38, .aload_n 1, 1, 0, 0), (39, .iload 5, 2, 0, 0), (41, .aload_n 2, 1, 0, 0), (42, .getfield 62, 3, 2, 2), (45, .iload 6, 2, 0, 0), (47, .invokevirtual 153, 3, 57, 4), (50, .goto 29, 3, 79, 0), (53, .aload_n 0, 1, 0, 0), (54, .aload_n 1, 1, 0, 0), (55, .iload 5, 2, 0, 0), (57, .aload_n 2, 1, 0, 0), (58, .getfield 69, 3, 2, 4), (61, .aload_n 1, 1, 0, 0), (62, .iload 5, 2, 0, 0), (64, .aload_n 2, 1, 0, 0), (65, .getfield 62, 3, 2, 2), (68, .invokevirtual 157, 3, 58, 2), (71, .iload 6, 2, 0, 0), (73, .isub, 1, 0, 0), (74, .iconst 1, 1, 0, 0), (75, .iadd, 1, 0, 0), (76, .invokevirtual 153, 3, 57, 4), (79, .aload_n 0, 1, 0, 0), (80, .aload_n 1, 1, 0, 0), (81, .getfield 103, 3, 6, 8), (84, .invokevirtual 119, 3, 61, 1), (87, .aload_n 0, 1, 0, 0), (88, .invokevirtual 122, 3, 62, 0), (91, .aload_n 2, 1, 0, 0), (92, .getfield 72, 3, 2, 5), (95, .istore 7, 2, 0, 0), (97, .iload 4, 2, 0, 0), (99, .istore 8, 2, 0, 0), (101, .iload 8, 2, 0, 0), (103, .aload_n 1, 1, 0, 0), (104, .getfield 18, 3, 6, 3), (107, .aload_n 2, 1, 0, 0), (108, .getfield 59, 3, 2, 0), (111, .iconst 1, 1, 0, 0), (112, .iadd, 1, 0, 0), (113, .iaload, 1, 0, 0), (114, .if_icmp .ge 48, 3, 162, 0), (117, .iload 8, 2, 0, 0), (119, .iload 5, 2, 0, 0), (121, .if_icmp .eq 35, 3, 156, 0), (124, .iload 7, 2, 0, 0), (126, .iconst 1, 1, 0, 0), (127, .iand, 1, 0, 0), (128, .iload_n 3, 1, 0, 0), (129, .if_icmp .ne 21, 3, 150, 0), (132, .aload_n 0, 1, 0, 0), (133, .aload_n 1, 1, 0, 0), (134, .iload 8, 2, 0, 0), (136, .iconst 0, 1, 0, 0), (137, .aload_n 1, 1, 0, 0), (138, .iload 8, 2, 0, 0), (140, .invokevirtual 48, 3, 41, 1), (143, .invokevirtual 153, 3, 57, 4), (146, .aload_n 0, 1, 0, 0), (147, .invokevirtual 122, 3, 62, 0), (150, .iload 7, 2, 0, 0), (152, .iconst 1, 1, 0, 0), (153, .ishr, 1, 0, 0), (154, .istore 7, 2, 0, 0), (156, .iinc 8 1, 3, 0, 0), (159, .goto (-58), 3, 101, 0), (162, .aload_n 0, 1, 0, 0), (163, .invokevirtual 125, 3, 63, 0), (166, .return_, 1, 0, 0)]
def ipc_61 : List (Nat × Instr × Nat × Nat × Nat) := [(0, .aload_n 0, 1, 0, 0), (1, .getfield 97, 3, 6, 5), (4, .aload_n 0, 1, 0, 0), (5, .getfield 15, 3, 6, 2), (8, .aload_n 0, 1, 0, 0), (9, .getfield 100, 3, 6, 6), (12, .iaload, 1, 0, 0), (13, .if_icmp .le 7, 3, 20, 0), (16, .iconst 1, 1, 0, 0), (17, .goto 4, 3, 21, 0), (20, .iconst 0, 1, 0, 0), (21, .istore_n 2, 1, 0, 0), (22, .aload_n 0, 1, 0, 0), (23, .getfield 24, 3, 6, 0), (26, .ifCond .eq 32, 3, 58, 0), (29, .aload_n 0, 1, 0, 0), (30, .getfield 21, 3, 6, 4), (33, .iload_n 1, 1, 0, 0), (34, .iaload, 1, 0, 0), (35, .ifCond .eq 22, 3, 57, 0), (38, .iload_n 2, 1, 0, 0), (39, .ifCond .eq 19, 3, 58, 0), (42, .aload_n 0, 1, 0, 0), (43, .getfield 9, 3, 6, 1), (46, .aload_n 0, 1, 0, 0), (47, .getfield 97, 3, 6, 5), (50, .iconst 1, 1, 0, 0), (51, .isub, 1, 0, 0), (52, .iaload, 1, 0, 0), (53, .iload_n 1, 1, 0, 0), (54, .if_icmp .ne 4, 3, 58, 0), (57, .return_, 1, 0, 0), (58, .aload_n 0, 1, 0, 0), (59, .getfield 97, 3, 6, 5), (62, .aload_n 0, 1, 0, 0), (63, .getfield 9, 3, 6, 1), (66, .arraylength, 1, 0, 0), (67, .if_icmp .ge 23, 3, 90, 0), (70, .aload_n 0, 1, 0, 0), (71, .getfield 9, 3, 6, 1), (74, .aload_n 0, 1, 0, 0), (75, .getfield 97, 3, 6, 5), (78, .iload_n 1, 1, 0, 0), (79, .iastore, 1, 0, 0), (80, .aload_n 0, 1, 0, 0), (81, .dup, 1, 0, 0), (82, .getfield 97, 3, 6, 5), (85, .iconst 1, 1, 0, 0), (86, .iadd, 1, 0, 0), (87, .putfield 97, 3, 6, 5), (90, .return_, 1, 0, 0)]
def ipc_62 : List (Nat × Instr × Nat × Nat × Nat) := [(0, .aload_n 0, 1, 0, 0), (1, .getfield 15, 3, 6, 2), (4, .aload_n 0, 1, 0, 0), (5, .getfield 100, 3, 6, 6), (8, .iaload, 1, 0, 0), (9, .istore_n 1, 1, 0, 0), (10, .aload_n 0, 1, 0, 0), (11, .getfield 24, 3, 6, 0), (14, .ifCond .eq 52, 3, 66, 0), (17, .aload_n 0, 1, 0, 0), (18, .getfield 97, 3, 6, 5), (21, .iload_n 1, 1, 0, 0), (22, .iconst 1, 1, 0, 0), (23, .iadd, 1, 0, 0), (24, .if_icmp .le 33, 3, 57, 0), (27, .aload_n 0, 1, 0, 0), (28, .getfield 9, 3, 6, 1), (31, .iload_n 1, 1, 0, 0), (32, .iaload, 1, 0, 0), (33, .aload_n 0, 1, 0, 0), (34, .getfield 9, 3, 6, 1), (37, .aload_n 0, 1, 0, 0), (38, .getfield 97, 3, 6, 5), (41, .iconst 1, 1, 0, 0), (42, .isub, 1, 0, 0), (43, .iaload, 1, 0, 0), (44, .if_icmp .ne 13, 3, 57, 0), (47, .aload_n 0, 1, 0, 0), (48, .dup, 1, 0, 0), (49, .getfield 97, 3, 6, 5), (52, .iconst 1, 1, 0, 0), (53, .isub, 1, 0, 0), (54, .putfield 97, 3, 6, 5), (57, .aload_n 0, 1, 0, 0), (58, .getfield 97, 3, 6, 5), (61, .iload_n 1, 1, 0, 0), (62, .if_icmp .ne 4, 3, 66, 0), (65, .return_, 1, 0, 0), (66, .aload_n 0, 1, 0, 0), (67, .getfield 100, 3, 6, 6), (70, .bipush 31, 2, 0, 0), (72, .if_icmp .ge 26, 3, 98, 0), (75, .aload_n 0, 1, 0, 0), (76, .dup, 1, 0, 0), (77, .getfield 100, 3, 6, 6), (80, .iconst 1, 1, 0, 0), (81, .iadd, 1, 0, 0), (82, .putfield 100, 3, 6, 6), (85, .aload_n 0, 1, 0, 0), (86, .getfield 15, 3, 6, 2), (89, .aload_n 0, 1, 0, 0), (90, .getfield 100, 3, 6, 6), (93, .aload_n 0, 1, 0, 0), (94, .getfield 97, 3, 6, 5), (97, .iastore, 1, 0, 0), (98, .return_, 1, 0, 0)]
def ipc_63 : List (Nat × Instr × Nat × Nat × Nat) := [(0, .aload_n 0, 1, 0, 0), (1, .getfield 24, 3, 6, 0), (4, .ifCond .eq 53, 3, 57, 0), (7, .aload_n 0, 1, 0, 0), (8, .aload_n 0, 1, 0, 0), (9, .getfield 15, 3, 6, 2), (12, .aload_n 0, 1, 0, 0), (13, .getfield 18, 3, 6, 3), (16, .aload_n 0, 1, 0, 0), (17, .getfield 28, 3, 6, 7), (20, .iaload, 1, 0, 0), (21, .iaload, 1, 0, 0), (22, .invokevirtual 160, 3, 64, 1), (25, .ifCond .ne 32, 3, 57, 0), (28, .aload_n 0, 1, 0, 0), (29, .aload_n 0, 1, 0, 0), (30, .getfield 18, 3, 6, 3), (33, .aload_n 0, 1, 0, 0), (34, .getfield 28, 3, 6, 7), (37, .iaload, 1, 0, 0), (38, .putfield 100, 3, 6, 6), (41, .aload_n 0, 1, 0, 0), (42, .aload_n 0, 1, 0, 0), (43, .getfield 15, 3, 6, 2), (46, .aload_n 0, 1, 0, 0), (47, .getfield 100, 3, 6, 6), (50, .iaload, 1, 0, 0), (51, .putfield 97, 3, 6, 5), (54, .goto 35, 3, 89, 0), (57, .aload_n 0, 1, 0, 0), (58, .getfield 28, 3, 6, 7), (61, .bipush 24, 2, 0, 0), (63, .if_icmp .ge 26, 3, 89, 0), (66, .aload_n 0, 1, 0, 0), (67, .dup, 1, 0, 0), (68, .getfield 28, 3, 6, 7), (71, .iconst 1, 1, 0, 0), (72, .iadd, 1, 0, 0), (73, .putfield 28, 3, 6, 7), (76, .aload_n 0, 1, 0, 0), (77, .getfield 18, 3, 6, 3), (80, .aload_n 0, 1, 0, 0), (81, .getfield 28, 3, 6, 7), (84, .aload_n 0, 1, 0, 0), (85, .getfield 100, 3, 6, 6), (88, .iastore, 1, 0, 0), (89, .return_, 1, 0, 0)]
def ipc_64 : List (Nat × Instr × Nat × Nat × Nat) := [(0, .iload_n 1, 1, 0, 0), (1, .istore_n 2, 1, 0, 0), (2, .iload_n 2, 1, 0, 0), (3, .aload_n 0, 1, 0, 0), (4, .getfield 97, 3, 6, 5), (7, .if_icmp .ge 41, 3, 48, 0), (10, .aload_n 0, 1, 0, 0), (11, .getfield 21, 3, 6, 4), (14, .aload_n 0, 1, 0, 0), (15, .getfield 9, 3, 6, 1), (18, .iload_n 2, 1, 0, 0), (19, .iaload, 1, 0, 0), (20, .iaload, 1, 0, 0), (21, .iconst 2, 1, 0, 0), (22, .if_icmp .ge 18, 3, 40, 0), (25, .aload_n 0, 1, 0, 0), (26, .getfield 9, 3, 6, 1), (29, .iload_n 2, 1, 0, 0), (30, .iaload, 1, 0, 0), (31, .aload_n 0, 1, 0, 0), (32, .getfield 9, 3, 6, 1), (35, .iload_n 1, 1, 0, 0), (36, .iaload, 1, 0, 0), (37, .if_icmp .eq 5, 3, 42, 0), (40, .iconst 1, 1, 0, 0), (41, .ireturn, 1, 0, 0), (42, .iinc 2 1, 3, 0, 0), (45, .goto (-43), 3, 2, 0), (48, .iconst 0, 1, 0, 0), (49, .ireturn, 1, 0, 0)]
def ipc_65 : List (Nat × Instr × Nat × Nat × Nat) := [(0, .aload_n 0, 1, 0, 0), (1, .invokespecial 3, 3, 999, 0), (4, .aload_n 0, 1, 0, 0), (5, .new 9, 3, 5, 0), (8, .dup, 1, 0, 0), (9, .invokespecial 11, 3, 29, 0), (12, .putfield 12, 3, 7, 0), (15, .aload_n 0, 1, 0, 0), (16, .new 18, 3, 3, 0), (19, .dup, 1, 0, 0), (20, .aload_n 0, 1, 0, 0), (21, .getfield 12, 3, 7, 0), (24, .invokespecial 20, 3, 14, 1), (27, .putfield 23, 3, 7, 1), (30, .aload_n 0, 1, 0, 0), (31, .new 27, 3, 1, 0), (34, .dup, 1, 0, 0), (35, .invokespecial 29, 3, 6, 0), (38, .putfield 30, 3, 7, 2), (41, .aload_n 0, 1, 0, 0), (42, .new 34, 3, 6, 0), (45, .dup, 1, 0, 0), (46, .iconst 1, 1, 0, 0), (47, .invokespecial 36, 3, 35, 1), (50, .putfield 39, 3, 7, 3), (53, .aload_n 0, 1, 0, 0), (54, .bipush 9, 2, 0, 0), (56, .anewarray 34, 3, 5, 0), (59, .putfield 43, 3, 7, 4), (62, .aload_n 0, 1, 0, 0), (63, .bipush 9, 2, 0, 0), (65, .anewarray 47, 3, 4, 0), (68, .putfield 49, 3, 7, 5), (71, .aload_n 0, 1, 0, 0), (72, .bipush 50, 2, 0, 0), (74, .newarray .long, 2, 1, 0), (76, .putfield 53, 3, 7, 6), (79, .aload_n 0, 1, 0, 0), (80, .bipush 50, 2, 0, 0), (82, .newarray .long, 2, 1, 0), (84, .putfield 57, 3, 7, 7), (87, .aload_n 0, 1, 0, 0), (88, .bipush 16, 2, 0, 0), (90, .newarray .int, 2, 0, 0), (92, .putfield 60, 3, 7, 8), (95, .iconst 0, 1, 0, 0), (96, .istore_n 1, 1, 0, 0), (97, .iload_n 1, 1, 0, 0), (98, .bipush 9, 2, 0, 0), (100, .if_icmp .ge 36, 3, 136, 0), (103, .aload_n 0, 1, 0, 0), (104, .getfield 43, 3, 7, 4), (107, .iload_n 1, 1, 0, 0), (108, .new 34, 3, 6, 0), (111, .dup, 1, 0, 0), (112, .iconst 1, 1, 0, 0), (113, .invokespecial 36, 3, 35, 1), (116, .aastore, 1, 0, 0), (117, .aload_n 0, 1, 0, 0), (118, .getfield 49, 3, 7, 5), (121, .iload_n 1, 1, 0, 0), (122, .new 47, 3, 2, 0), (125, .dup, 1, 0, 0), (126, .invokespecial 64, 3, 10, 0), (129, .aastore, 1, 0, 0), (130, .iinc 1 1, 3, 0, 0), (133, .goto (-36), 3, 97, 0), (136, .return_, 1, 0, 0)]
def ipc_66 : List (Nat × Instr × Nat × Nat × Nat) := [(0, .aload_n 0, 1, 0, 0), (1, .getfield 39, 3, 7, 3), (4, .aload_n 1, 1, 0, 0), (5, .invokevirtual 65, 3, 53, 1), (8, .aload_n 0, 1, 0, 0), (9, .iconst 0, 1, 0, 0), (10, .invokevirtual 69, 3, 68, 1), (13, .ireturn, 1, 0, 0)]
def ipc_67 : List (Nat × Instr × Nat × Nat × Nat) := [(0, .iconst 0, 1, 0, 0), (1, .istore_n 3, 1, 0, 0), (2, .aload_n 2, 1, 0, 0), (3, .invokevirtual 73, 3, 11, 0), (6, .iconst 0, 1, 0, 0), (7, .istore 4, 2, 0, 0), (9, .iload 4, 2, 0, 0), (11, .ldc 76, 2, 1000000, 0), (13, .if_icmp .ge 68, 3, 81, 0), (16, .aload_n 1, 1, 0, 0), (17, .aload_n 2, 1, 0, 0), (18, .invokevirtual 77, 3, 46, 1), (21, .ifCond .eq 60, 3, 81, 0), (24, .aload_n 1, 1, 0, 0), (25, .aload_n 2, 1, 0, 0), (26, .invokevirtual 81, 3, 44, 1), (29, .istore 5, 2, 0, 0), (31, .iconst 0, 1, 0, 0), (32, .istore 6, 2, 0, 0), (34, .iload 6, 2, 0, 0), (36, .iload 5, 2, 0, 0), (38, .if_icmp .ge 37, 3, 75, 0), (41, .aload_n 2, 1, 0, 0), (42, .iload 6, 2, 0, 0), (44, .putfield 85, 3, 2, 5), (47, .aload_n 0, 1, 0, 0), (48, .getfield 39, 3, 7, 3), (51, .aload_n 1, 1, 0, 0), (52, .aload_n 2, 1, 0, 0), (53, .invokevirtual 89, 3, 54, 2), (56, .aload_n 0, 1, 0, 0), (57, .iconst 0, 1, 0, 0), (58, .invokevirtual 69, 3, 68, 1), (61, .ifCond .ne 5, 3, 66, 0), (64, .iload_n 3, 1, 0, 0), (65, .ireturn, 1, 0, 0), (66, .iinc 3 1, 3, 0, 0), (69, .iinc 6 1, 3, 0, 0), (72, .goto (-38), 3, 34, 0), (75, .iinc 4 1, 3, 0, 0), (78, .goto (-69), 3, 9, 0), (81, .iconst (-1), 1, 0, 0), (82, .ireturn, 1, 0, 0)]
def ipc_68 : List (Nat × Instr × Nat × Nat × Nat) := [(0, .iconst 0, 1, 0, 0), (1, .istore_n 2, 1, 0, 0), (2, .iload_n 1, 1, 0, 0), (3, .iconst 5, 1, 0, 0), (4, .imul, 1, 0, 0), (5, .istore_n 3, 1, 0, 0), (6, .iload_n 3, 1, 0, 0), (7, .istore 4, 2, 0, 0), (9, .aload_n 0, 1, 0, 0), (10, .getfield 12, 3, 7, 0), (13, .aload_n 0, 1, 0, 0), (14, .getfield 39, 3, 7, 3), (17, .invokevirtual 93, 3, 30, 1), (20, .iconst 0, 1, 0, 0), (21, .istore 5, 2, 0, 0), (23, .iload 5, 2, 0, 0), (25, .iconst 5, 1, 0, 0), (26, .if_icmp .ge 101, 3, 127, 0), (29, .aload_n 0, 1, 0, 0), (30, .getfield 12, 3, 7, 0), (33, .aload_n 0, 1, 0, 0), (34, .getfield 39, 3, 7, 3), (37, .getfield 96, 3, 6, 7), (40, .invokevirtual 99, 3, 33, 1), (43, .istore 6, 2, 0, 0), (45, .iload 6, 2, 0, 0), (47, .ifCond .ne 6, 3, 53, 0), (50, .goto 77, 3, 127, 0), (53, .aload_n 0, 1, 0, 0), (54, .getfield 12, 3, 7, 0), (57, .iload 6, 2, 0, 0), (59, .aload_n 0, 1, 0, 0), (60, .getfield 39, 3, 7, 3), (63, .invokevirtual 102, 3, 34, 2), (66, .iconst 2, 1, 0, 0), (67, .if_icmp .ne 10, 3, 77, 0), (70, .iload_n 2, 1, 0, 0), (71, .iconst 1, 1, 0, 0), (72, .ixor, 1, 0, 0), (73, .istore_n 2, 1, 0, 0), (74, .goto 47, 3, 121, 0), (77, .aload_n 0, 1, 0, 0), (78, .getfield 23, 3, 7, 1), (81, .aload_n 0, 1, 0, 0), (82, .getfield 39, 3, 7, 3), (85, .iload 6, 2, 0, 0), (87, .invokevirtual 106, 3, 15, 2), (90, .aload_n 0, 1, 0, 0), (91, .getfield 53, 3, 7, 6), (94, .iload 4, 2, 0, 0), (96, .aload_n 0, 1, 0, 0), (97, .getfield 23, 3, 7, 1), (100, .getfield 110, 3, 3, 11), (103, .lastore, 1, 0, 0), (104, .aload_n 0, 1, 0, 0), (105, .getfield 57, 3, 7, 7), (108, .iload 4, 2, 0, 0), (110, .aload_n 0, 1, 0, 0), (111, .getfield 23, 3, 7, 1), (114, .getfield 114, 3, 3, 12), (117, .lastore, 1, 0, 0), (118, .iinc 4 1, 3, 0, 0), (121, .iinc 5 1, 3, 0, 0), (124, .goto (-101), 3, 23, 0), (127, .iload_n 3, 1, 0, 0), (128, .istore 5, 2, 0, 0), (130, .iload 5, 2, 0, 0), (132, .iload 4, 2, 0, 0), (134, .if_icmp .ge 31, 3, 165, 0), (137, .iload_n 2, 1, 0, 0), (138, .aload_n 0, 1, 0, 0), (139, .aload_n 0, 1, 0, 0), (140, .getfield 53, 3, 7, 6), (143, .iload 5, 2, 0, 0), (145, .laload, 1, 0, 0), (146, .aload_n 0, 1, 0, 0), (147, .getfield 57, 3, 7, 7), (150, .iload 5, 2, 0, 0), (152, .laload, 1, 0, 0), (153, .iload_n 1, 1, 0, 0), (154, .invokevirtual 117, 3, 69, 3), (157, .ixor, 1, 0, 0), (158, .istore_n 2, 1, 0, 0), (159, .iinc 5 1, 3, 0, 0), (162, .goto (-32), 3, 130, 0), (165, .iload_n 2, 1, 0, 0), (166, .ireturn, 1, 0, 0)]
def ipc_69 : List (Nat × Instr × Nat × Nat × Nat) := [(0, .aload_n 0, 1, 0, 0), (1, .getfield 30, 3, 7, 2), (4, .lload_n 1, 1, 0, 0), (5, .lload_n 3, 1, 0, 0), (6, .invokevirtual 121, 3, 8, 2), (9, .istore 6, 2, 0, 0), (11, .iload 6, 2, 0, 0), (13, .iconst (-1), 1, 0, 0), (14, .if_icmp .eq 6, 3, 20, 0), (17, .iload 6, 2, 0, 0), (19, .ireturn, 1, 0, 0), (20, .iload 5, 2, 0, 0), (22, .bipush 9, 2, 0, 0), (24, .if_icmp .lt 5, 3, 29, 0), (27, .iconst 0, 1, 0, 0), (28, .ireturn, 1, 0, 0), (29, .aload_n 0, 1, 0, 0), (30, .getfield 43, 3, 7, 4), (33, .iload 5, 2, 0, 0), (35, .aaload, 1, 0, 0), (36, .astore 7, 2, 0, 0), (38, .aload_n 0, 1, 0, 0), (39, .lload_n 1, 1, 0, 0), (40, .lload_n 3, 1, 0, 0), (41, .aload 7, 2, 0, 0), (43, .invokevirtual 125, 3, 70, 3), (46, .aload_n 0, 1, 0, 0), (47, .getfield 49, 3, 7, 5), (50, .iload 5, 2, 0, 0), (52, .aaload, 1, 0, 0), (53, .astore 8, 2, 0, 0), (55, .iconst 0, 1, 0, 0), (56, .istore 9, 2, 0, 0), (58, .aload 8, 2, 0, 0), (60, .invokevirtual 73, 3, 11, 0), (63, .iconst 0, 1, 0, 0), (64, .istore 10, 2, 0, 0), (66, .iload 10, 2, 0, 0), (68, .ldc 76, 2, 1000000, 0), (70, .if_icmp .ge 77, 3, 147, 0), (73, .aload 7, 2, 0, 0), (75, .aload 8, 2, 0, 0), (77, .invokevirtual 77, 3, 46, 1), (80, .ifCond .eq 67, 3, 147, 0), (83, .aload 7, 2, 0, 0), (85, .aload 8, 2, 0, 0), (87, .invokevirtual 81, 3, 44, 1), (90, .istore 11, 2, 0, 0), (92, .iconst 0, 1, 0, 0), (93, .istore 12, 2, 0, 0), (95, .iload 12, 2, 0, 0), (97, .iload 11, 2, 0, 0), (99, .if_icmp .ge 42, 3, 141, 0), (102, .aload 8, 2, 0, 0), (104, .iload 12, 2, 0, 0), (106, .putfield 85, 3, 2, 5), (109, .aload_n 0, 1, 0, 0), (110, .getfield 39, 3, 7, 3), (113, .aload 7, 2, 0, 0), (115, .aload 8, 2, 0, 0), (117, .invokevirtual 89, 3, 54, 2), (120, .iload 9, 2, 0, 0), (122, .iconst 1, 1, 0, 0), (123, .aload_n 0, 1, 0, 0), (124, .iload 5, 2, 0, 0), (126, .iconst 1, 1, 0, 0), (127, .iadd, 1, 0, 0), (128, .invokevirtual 69, 3, 68, 1), (131, .ishl, 1, 0, 0), (132, .ior, 1, 0, 0), (133, .istore 9, 2, 0, 0), (135, .iinc 12 1, 3, 0, 0), (138, .goto (-43), 3, 95, 0), (141, .iinc 10 1, 3, 0, 0), (144, .goto (-78), 3, 66, 0), (147, .iload 9, 2, 0, 0), (149, .iconst (-1), 1, 0, 0), (150, .ixor, 1, 0, 0), (151, .invokestatic 129, 3, 151, 1), (154, .istore 10, 2, 0, 0), (156, .aload_n 0, 1, 0, 0), (157, .getfield 30, 3, 7, 2), (160, .lload_n 1, 1, 0, 0), (161, .lload_n 3, 1, 0, 0), (162, .iload 10, 2, 0, 0), (164, .invokevirtual 134, 3, 9, 3), (167, .iload 10, 2, 0, 0), (169, .ireturn, 1, 0, 0)]
def ipc_70 : List (Nat × Instr × Nat × Nat × Nat) := [(0, .aload 5, 2, 0, 0), (2, .invokevirtual 138, 3, 49, 0), (5, .iconst 0, 1, 0, 0), (6, .istore 6, 2, 0, 0), (8, .iload 6, 2, 0, 0), (10, .aload_n 0, 1, 0, 0), (11, .getfield 60, 3, 7, 8), (14, .arraylength, 1, 0, 0), (15, .if_icmp .ge 17, 3, 32, 0), (18, .aload_n 0, 1, 0, 0), (19, .getfield 60, 3, 7, 8), (22, .iload 6, 2, 0, 0), (24, .iconst (-1), 1, 0, 0), (25, .iastore, 1, 0, 0), (26, .iinc 6 1, 3, 0, 0), (29, .goto (-21), 3, 8, 0), (32, .aload_n 0, 1, 0, 0), (33, .lload_n 1, 1, 0, 0), (34, .aload 5, 2, 0, 0), (36, .invokevirtual 141, 3, 71, 2), (39, .aload_n 0, 1, 0, 0), (40, .lload_n 3, 1, 0, 0), (41, .aload 5, 2, 0, 0), (43, .invokevirtual 141, 3, 71, 2), (46, .return_, 1, 0, 0)]
def ipc_71 : List (Nat × Instr × Nat × Nat × Nat) := [(0, .lload_n 1, 1, 0, 0), (1, .lstore 4, 2, 0, 0), (3, .iconst 0, 1, 0, 0), (4, .istore 6, 2, 0, 0), (6, .iload 6, 2, 0, 0), (8, .bipush 10, 2, 0, 0), (10, .if_icmp .ge 70, 3, 80, 0), (13, .lload 4, 2, 0, 0), (15, .lconst 0, 1, 0, 0), (16, .lcmp, 1, 0, 0), (17, .ifCond .eq 63, 3, 80, 0), (20, .lload 4, 2, 0, 0), (22, .iconst 2, 1, 0, 0), (23, .lshr, 1, 0, 0), (24, .l2i, 1, 0, 0), (25, .bipush 15, 2, 0, 0), (27, .iand, 1, 0, 0), (28, .istore 7, 2, 0, 0), (30, .lload 4, 2, 0, 0), (32, .l2i, 1, 0, 0), (33, .iconst 3, 1, 0, 0), (34, .iand, 1, 0, 0), (35, .istore 8, 2, 0, 0), (37, .aload_n 3, 1, 0, 0), (38, .aload_n 0, 1, 0, 0), (39, .iload 7, 2, 0, 0), (41, .aload_n 3, 1, 0, 0), (42, .invokevirtual 145, 3, 72, 2), (45, .invokevirtual 148, 3, 61, 1), (48, .iload 8, 2, 0, 0), (50, .ifCond .eq 7, 3, 57, 0), (53, .aload_n 3, 1, 0, 0), (54, .invokevirtual 152, 3, 62, 0), (57, .iload 8, 2, 0, 0), (59, .iconst 2, 1, 0, 0), (60, .if_icmp .ne 7, 3, 67, 0), (63, .aload_n 3, 1, 0, 0), (64, .invokevirtual 155, 3, 63, 0), (67, .lload 4, 2, 0, 0), (69, .bipush 6, 2, 0, 0), (71, .lushr, 1, 0, 0), (72, .lstore 4, 2, 0, 0), (74, .iinc 6 1, 3, 0, 0), (77, .goto (-71), 3, 6, 0), (80, .return_, 1, 0, 0)]
def ipc_72 : List (Nat × Instr × Nat × Nat × Nat) := [(0, .iload_n 1, 1, 0, 0), (1, .iconst 4, 1, 0, 0), (2, .if_icmp .lt 20, 3, 22, 0), (5, .aload_n 0, 1, 0, 0), (6, .getfield 60, 3, 7, 8), (9, .iload_n 1, 1, 0, 0), (10, .iaload, 1, 0, 0), (11, .iconst (-1), 1, 0, 0), (12, .if_icmp .eq 10, 3, 22, 0), (15, .aload_n 0, 1, 0, 0), (16, .getfield 60, 3, 7, 8), (19, .iload_n 1, 1, 0, 0), (20, .iaload, 1, 0, 0), (21, .ireturn, 1, 0, 0), (22, .aload_n 2, 1, 0, 0), (23, .getfield 158, 3, 6, 8), (26, .istore_n 3, 1, 0, 0), (27, .aload_n 0, 1, 0, 0), (28, .getfield 60, 3, 7, 8), (31, .iload_n 1, 1, 0, 0), (32, .iload_n 3, 1, 0, 0), (33, .iastore, 1, 0, 0), (34, .aload_n 2, 1, 0, 0), (35, .iload_n 1, 1, 0, 0), (36, .iconst 1, 1, 0, 0), (37, .if_icmp .ne 7, 3, 44, 0), (40, .iconst 3, 1, 0, 0), (41, .goto 13, 3, 54, 0), (44, .iload_n 1, 1, 0, 0), (45, .iconst 2, 1, 0, 0), (46, .if_icmp .ne 7, 3, 53, 0), (49, .iconst 2, 1, 0, 0), (50, .goto 4, 3, 54, 0), (53, .iconst 1, 1, 0, 0), (54, .invokevirtual 161, 3, 50, 1), (57, .iload_n 3, 1, 0, 0), (58, .ireturn, 1, 0, 0)]
def ipc_73 : List (Nat × Instr × Nat × Nat × Nat) := [(0, .aload_n 0, 1, 0, 0), (1, .invokespecial 3, 3, 999, 0), (4, .aload_n 0, 1, 0, 0), (5, .new 9, 3, 0, 0), (8, .dup, 1, 0, 0), (9, .invokespecial 11, 3, 0, 0), (12, .putfield 12, 3, 8, 0), (15, .aload_n 0, 1, 0, 0), (16, .iconst 4, 1, 0, 0), (17, .anewarray 16, 3, 6, 0), (20, .putfield 18, 3, 8, 1), (23, .aload_n 0, 1, 0, 0), (24, .new 22, 3, 2, 0), (27, .dup, 1, 0, 0), (28, .invokespecial 24, 3, 10, 0), (31, .putfield 25, 3, 8, 2), (34, .aload_n 0, 1, 0, 0), (35, .getfield 12, 3, 8, 0), (38, .iconst 2, 1, 0, 0), (39, .invokevirtual 29, 3, 2, 1), (42, .return_, 1, 0, 0)]
def ipc_74 : List (Nat × Instr × Nat × Nat × Nat) := [(0, .iload_n 1, 1, 0, 0), (1, .iconst 1, 1, 0, 0), (2, .if_icmp .lt 9, 3, 11, 0), (5, .iload_n 1, 1, 0, 0), (6, .bipush 8, 2, 0, 0), (8, .if_icmp .le 5, 3, 13, 0), (11, .iconst 0, 1, 0, 0), (12, .ireturn, 1, 0, 0), (13, .aload_n 0, 1, 0, 0), (14, .getfield 12, 3, 8, 0), (17, .iload_n 1, 1, 0, 0), (18, .invokevirtual 29, 3, 2, 1), (21, .iconst 1, 1, 0, 0), (22, .ireturn, 1, 0, 0)]
def ipc_75 : List (Nat × Instr × Nat × Nat × Nat) := [(0, .aload_n 0, 1, 0, 0), (1, .getfield 12, 3, 8, 0), (4, .invokevirtual 33, 3, 1, 0), (7, .astore_n 2, 1, 0, 0), (8, .iload_n 1, 1, 0, 0), (9, .tableswitch 75 0 5 #[39, 44, 49, 60, 65, 70], 39, 0, 0), (48, .aload_n 2, 1, 0, 0), (49, .getfield 37, 3, 6, 8), (52, .ireturn, 1, 0, 0), (53, .aload_n 2, 1, 0, 0), (54, .getfield 43, 3, 6, 7), (57, .ireturn, 1, 0, 0), (58, .aload_n 0, 1, 0, 0), (59, .getfield 12, 3, 8, 0), (62, .getfield 46, 3, 0, 0), (65, .getfield 50, 3, 4, 2), (68, .ireturn, 1, 0, 0), (69, .aload_n 2, 1, 0, 0), (70, .getfield 53, 3, 6, 10), (73, .ireturn, 1, 0, 0), (74, .aload_n 2, 1, 0, 0), (75, .getfield 56, 3, 6, 6), (78, .ireturn, 1, 0, 0), (79, .aload_n 2, 1, 0, 0), (80, .getfield 59, 3, 6, 9), (83, .ireturn, 1, 0, 0), (84, .iconst (-1), 1, 0, 0), (85, .ireturn, 1, 0, 0)]
def ipc_76 : List (Nat × Instr × Nat × Nat × Nat) := [(0, .aload_n 0, 1, 0, 0), (1, .getfield 12, 3, 8, 0), (4, .invokevirtual 33, 3, 1, 0), (7, .astore_n 2, 1, 0, 0), (8, .aload_n 2, 1, 0, 0), (9, .iload_n 1, 1, 0, 0), (10, .invokevirtual 62, 3, 36, 1), (13, .ifCond .eq 11, 3, 24, 0), (16, .aload_n 2, 1, 0, 0), (17, .iload_n 1, 1, 0, 0), (18, .invokevirtual 66, 3, 39, 1), (21, .goto 4, 3, 25, 0), (24, .iconst (-1), 1, 0, 0), (25, .ireturn, 1, 0, 0)]
def ipc_77 : List (Nat × Instr × Nat × Nat × Nat) := [(0, .aload_n 0, 1, 0, 0), (1, .getfield 12, 3, 8, 0), (4, .invokevirtual 33, 3, 1, 0), (7, .astore_n 3, 1, 0, 0), (8, .aload_n 3, 1, 0, 0), (9, .iload_n 1, 1, 0, 0), (10, .iload_n 2, 1, 0, 0), (11, .invokevirtual 70, 3, 37, 2), (14, .ifCond .eq 12, 3, 26, 0), (17, .aload_n 3, 1, 0, 0), (18, .iload_n 1, 1, 0, 0), (19, .iload_n 2, 1, 0, 0), (20, .invokevirtual 74, 3, 40, 2), (23, .goto 4, 3, 27, 0), (26, .iconst (-1), 1, 0, 0), (27, .ireturn, 1, 0, 0)]
def ipc_78 : List (Nat × Instr × Nat × Nat × Nat) := [(0, .aload_n 0, 1, 0, 0), (1, .getfield 12, 3, 8, 0), (4, .invokevirtual 33, 3, 1, 0), (7, .astore 4, 2, 0, 0), (9, .aload 4, 2, 0, 0), (11, .iload_n 1, 1, 0, 0), (12, .iload_n 2, 1, 0, 0), (13, .iload_n 3, 1, 0, 0), (14, .invokevirtual 78, 3, 38, 3), (17, .ifCond .eq 14, 3, 31, 0), (20, .aload 4, 2, 0, 0), (22, .iload_n 1, 1, 0, 0), (23, .iload_n 2, 1, 0, 0), (24, .iload_n 3, 1, 0, 0), (25, .invokevirtual 82, 3, 42, 3), (28, .goto 4, 3, 32, 0), (31, .iconst (-1), 1, 0, 0), (32, .ireturn, 1, 0, 0)]
def ipc_79 : List (Nat × Instr × Nat × Nat × Nat) := [(0, .aload_n 0, 1, 0, 0), (1, .getfield 12, 3, 8, 0), (4, .invokevirtual 33, 3, 1, 0), (7, .astore_n 2, 1, 0, 0), (8, .iload_n 1, 1, 0, 0), (9, .ifCond .lt 20, 3, 29, 0), (12, .iload_n 1, 1, 0, 0), (13, .aload_n 2, 1, 0, 0), (14, .getfield 37, 3, 6, 8), (17, .if_icmp .ge 12, 3, 29, 0), (20, .aload_n 2, 1, 0, 0), (21, .getfield 86, 3, 6, 4), (24, .iload_n 1, 1, 0, 0), (25, .iaload, 1, 0, 0), (26, .goto 4, 3, 30, 0), (29, .iconst (-1), 1, 0, 0), (30, .ireturn, 1, 0, 0)]
def ipc_80 : List (Nat × Instr × Nat × Nat × Nat) := [(0, .aload_n 0, 1, 0, 0), (1, .getfield 25, 3, 8, 2), (4, .iload_n 1, 1, 0, 0), (5, .putfield 90, 3, 2, 0), (8, .aload_n 0, 1, 0, 0), (9, .getfield 25, 3, 8, 2), (12, .iload_n 2, 1, 0, 0), (13, .putfield 93, 3, 2, 1), (16, .aload_n 0, 1, 0, 0), (17, .getfield 25, 3, 8, 2), (20, .iload_n 3, 1, 0, 0), (21, .putfield 96, 3, 2, 2), (24, .aload_n 0, 1, 0, 0), (25, .getfield 25, 3, 8, 2), (28, .iload 4, 2, 0, 0), (30, .putfield 99, 3, 2, 3), (33, .aload_n 0, 1, 0, 0), (34, .getfield 25, 3, 8, 2), (37, .iload 5, 2, 0, 0), (39, .putfield 102, 3, 2, 4), (42, .aload_n 0, 1, 0, 0), (43, .getfield 25, 3, 8, 2), (46, .iload 6, 2, 0, 0), (48, .putfield 105, 3, 2, 5), (51, .aload_n 0, 1, 0, 0), (52, .getfield 12, 3, 8, 0), (55, .invokevirtual 33, 3, 1, 0), (58, .aload_n 0, 1, 0, 0), (59, .getfield 25, 3, 8, 2), (62, .invokevirtual 108, 3, 45, 1), (65, .ifCond .eq 17, 3, 82, 0), (68, .aload_n 0, 1, 0, 0), (69, .getfield 12, 3, 8, 0), (72, .aload_n 0, 1, 0, 0), (73, .getfield 25, 3, 8, 2), (76, .invokevirtual 112, 3, 3, 1), (79, .goto 4, 3, 83, 0), (82, .iconst (-1), 1, 0, 0), (83, .ireturn, 1, 0, 0)]
def ipc_81 : List (Nat × Instr × Nat × Nat × Nat) := [(0, .aload_n 0, 1, 0, 0), (1, .getfield 12, 3, 8, 0), (4, .invokevirtual 33, 3, 1, 0), (7, .astore_n 1, 1, 0, 0), (8, .iconst 0, 1, 0, 0), (9, .istore_n 2, 1, 0, 0), (10, .aload_n 0, 1, 0, 0), (11, .getfield 25, 3, 8, 2), (14, .invokevirtual 116, 3, 11, 0), (17, .iconst 0, 1, 0, 0), (18, .istore_n 3, 1, 0, 0), (19, .iload_n 3, 1, 0, 0), (20, .ldc 119, 2, 1000000, 0), (22, .if_icmp .ge 31, 3, 53, 0), (25, .aload_n 1, 1, 0, 0), (26, .aload_n 0, 1, 0, 0), (27, .getfield 25, 3, 8, 2), (30, .invokevirtual 120, 3, 46, 1), (33, .ifCond .eq 20, 3, 53, 0), (36, .iload_n 2, 1, 0, 0), (37, .aload_n 1, 1, 0, 0), (38, .aload_n 0, 1, 0, 0), (39, .getfield 25, 3, 8, 2), (42, .invokevirtual 123, 3, 44, 1), (45, .iadd, 1, 0, 0), (46, .istore_n 2, 1, 0, 0), (47, .iinc 3 1, 3, 0, 0), (50, .goto (-31), 3, 19, 0), (53, .iload_n 2, 1, 0, 0), (54, .ireturn, 1, 0, 0)]
def ipc_82 : List (Nat × Instr × Nat × Nat × Nat) := [(0, .aload_n 0, 1, 0, 0), (1, .getfield 12, 3, 8, 0), (4, .invokevirtual 33, 3, 1, 0), (7, .iload_n 1, 1, 0, 0), (8, .aload_n 0, 1, 0, 0), (9, .getfield 25, 3, 8, 2), (12, .invokevirtual 126, 3, 48, 2), (15, .ifCond .eq 17, 3, 32, 0), (18, .aload_n 0, 1, 0, 0), (19, .getfield 12, 3, 8, 0), (22, .aload_n 0, 1, 0, 0), (23, .getfield 25, 3, 8, 2), (26, .invokevirtual 112, 3, 3, 1), (29, .goto 4, 3, 33, 0), (32, .iconst (-1), 1, 0, 0), (33, .ireturn, 1, 0, 0)]
def ipc_83 : List (Nat × Instr × Nat × Nat × Nat) := [(0, .aload_n 0, 1, 0, 0), (1, .getfield 12, 3, 8, 0), (4, .invokevirtual 33, 3, 1, 0), (7, .iload_n 1, 1, 0, 0), (8, .aload_n 0, 1, 0, 0), (9, .getfield 25, 3, 8, 2), (12, .invokevirtual 126, 3, 48, 2), (15, .ifCond .eq 14, 3, 29, 0), (18, .aload_n 0, 1, 0, 0), (19, .getfield 25, 3, 8, 2), (22, .iload_n 2, 1, 0, 0), (23, .invokevirtual 130, 3, 13, 1), (26, .goto 4, 3, 30, 0), (29, .iconst (-1), 1, 0, 0), (30, .ireturn, 1, 0, 0)]
def ipc_84 : List (Nat × Instr × Nat × Nat × Nat) := [(0, .aload_n 0, 1, 0, 0), (1, .getfield 12, 3, 8, 0), (4, .invokevirtual 133, 3, 4, 0), (7, .ireturn, 1, 0, 0)]
def ipc_85 : List (Nat × Instr × Nat × Nat × Nat) := [(0, .aload_n 0, 1, 0, 0), (1, .getfield 12, 3, 8, 0), (4, .getfield 46, 3, 0, 0), (7, .astore_n 3, 1, 0, 0), (8, .iload_n 1, 1, 0, 0), (9, .ifCond .lt 24, 3, 33, 0), (12, .iload_n 1, 1, 0, 0), (13, .aload_n 3, 1, 0, 0), (14, .getfield 50, 3, 4, 2), (17, .if_icmp .ge 16, 3, 33, 0), (20, .aload_n 3, 1, 0, 0), (21, .getfield 137, 3, 4, 0), (24, .iload_n 1, 1, 0, 0), (25, .aaload, 1, 0, 0), (26, .iload_n 2, 1, 0, 0), (27, .invokevirtual 130, 3, 13, 1), (30, .goto 4, 3, 34, 0), (33, .iconst (-1), 1, 0, 0), (34, .ireturn, 1, 0, 0)]
def ipc_86 : List (Nat × Instr × Nat × Nat × Nat) := [(0, .aload_n 0, 1, 0, 0), (1, .invokevirtual 141, 3, 88, 0), (4, .ifCond .eq 20, 3, 24, 0), (7, .aload_n 0, 1, 0, 0), (8, .getfield 145, 3, 8, 3), (11, .aload_n 0, 1, 0, 0), (12, .getfield 12, 3, 8, 0), (15, .invokevirtual 33, 3, 1, 0), (18, .invokevirtual 149, 3, 66, 1), (21, .goto 4, 3, 25, 0), (24, .iconst (-1), 1, 0, 0), (25, .ireturn, 1, 0, 0)]
def ipc_87 : List (Nat × Instr × Nat × Nat × Nat) := [(0, .aload_n 0, 1, 0, 0), (1, .invokevirtual 141, 3, 88, 0), (4, .ifCond .eq 24, 3, 28, 0), (7, .aload_n 0, 1, 0, 0), (8, .getfield 145, 3, 8, 3), (11, .aload_n 0, 1, 0, 0), (12, .getfield 12, 3, 8, 0), (15, .invokevirtual 33, 3, 1, 0), (18, .aload_n 0, 1, 0, 0), (19, .getfield 25, 3, 8, 2), (22, .invokevirtual 155, 3, 67, 2), (25, .goto 4, 3, 29, 0), (28, .iconst (-1), 1, 0, 0), (29, .ireturn, 1, 0, 0)]
def ipc_88 : List (Nat × Instr × Nat × Nat × Nat) := [(0, .aload_n 0, 1, 0, 0), (1, .getfield 12, 3, 8, 0), (4, .invokevirtual 33, 3, 1, 0), (7, .getfield 53, 3, 6, 10), (10, .bipush 9, 2, 0, 0), (12, .if_icmp .le 5, 3, 17, 0), (15, .iconst 0, 1, 0, 0), (16, .ireturn, 1, 0, 0), (17, .aload_n 0, 1, 0, 0), (18, .getfield 145, 3, 8, 3), (21, .ifnonnull 14, 3, 35, 0), (24, .aload_n 0, 1, 0, 0), (25, .new 150, 3, 7, 0), (28, .dup, 1, 0, 0), (29, .invokespecial 159, 3, 65, 0), (32, .putfield 145, 3, 8, 3), (35, .iconst 1, 1, 0, 0), (36, .ireturn, 1, 0, 0)]
def ipc_89 : List (Nat × Instr × Nat × Nat × Nat) := [(0, .iload_n 1, 1, 0, 0), (1, .ifCond .lt 8, 3, 9, 0), (4, .iload_n 1, 1, 0, 0), (5, .iconst 4, 1, 0, 0), (6, .if_icmp .lt 5, 3, 11, 0), (9, .iconst 0, 1, 0, 0), (10, .ireturn, 1, 0, 0), (11, .aload_n 0, 1, 0, 0), (12, .getfield 18, 3, 8, 1), (15, .iload_n 1, 1, 0, 0), (16, .aaload, 1, 0, 0), (17, .ifnonnull 16, 3, 33, 0), (20, .aload_n 0, 1, 0, 0), (21, .getfield 18, 3, 8, 1), (24, .iload_n 1, 1, 0, 0), (25, .new 16, 3, 4, 0), (28, .dup, 1, 0, 0), (29, .invokespecial 160, 3, 27, 0), (32, .aastore, 1, 0, 0), (33, .aload_n 0, 1, 0, 0), (34, .getfield 18, 3, 8, 1), (37, .iload_n 1, 1, 0, 0), (38, .aaload, 1, 0, 0), (39, .aload_n 0, 1, 0, 0), (40, .getfield 12, 3, 8, 0), (43, .getfield 46, 3, 0, 0), (46, .invokevirtual 161, 3, 28, 1), (49, .iconst 1, 1, 0, 0), (50, .ireturn, 1, 0, 0)]
def ipc_90 : List (Nat × Instr × Nat × Nat × Nat) := [(0, .iload_n 1, 1, 0, 0), (1, .ifCond .lt 17, 3, 18, 0), (4, .iload_n 1, 1, 0, 0), (5, .iconst 4, 1, 0, 0), (6, .if_icmp .ge 12, 3, 18, 0), (9, .aload_n 0, 1, 0, 0), (10, .getfield 18, 3, 8, 1), (13, .iload_n 1, 1, 0, 0), (14, .aaload, 1, 0, 0), (15, .ifnonnull 5, 3, 20, 0), (18, .iconst 0, 1, 0, 0), (19, .ireturn, 1, 0, 0), (20, .aload_n 0, 1, 0, 0), (21, .getfield 12, 3, 8, 0), (24, .aload_n 0, 1, 0, 0), (25, .getfield 18, 3, 8, 1), (28, .iload_n 1, 1, 0, 0), (29, .aaload, 1, 0, 0), (30, .invokevirtual 165, 3, 5, 1), (33, .iconst 1, 1, 0, 0), (34, .ireturn, 1, 0, 0)]
def ipc_91 : List (Nat × Instr × Nat × Nat × Nat) := [(0, .aload_n 0, 1, 0, 0), (1, .invokespecial 1, 3, 999, 0), (4, .aload_n 0, 1, 0, 0), (5, .ldc 7, 2, 52000, 0), (7, .newarray .int, 2, 0, 0), (9, .putfield 8, 3, 9, 0), (12, .aload_n 0, 1, 0, 0), (13, .iconst 4, 1, 0, 0), (14, .newarray .boolean, 2, 3, 0), (16, .putfield 14, 3, 9, 1), (19, .aload_n 0, 1, 0, 0), (20, .ldc 18, 2, 2359296, 0), (22, .newarray .byte, 2, 2, 0), (24, .putfield 19, 3, 9, 2), (27, .aload_n 0, 1, 0, 0), (28, .ldc 23, 2, 32768, 0), (30, .newarray .int, 2, 0, 0), (32, .putfield 24, 3, 9, 3), (35, .aload_n 0, 1, 0, 0), (36, .ldc 23, 2, 32768, 0), (38, .newarray .byte, 2, 2, 0), (40, .putfield 27, 3, 9, 4), (43, .aload_n 0, 1, 0, 0), (44, .bipush 32, 2, 0, 0), (46, .newarray .int, 2, 0, 0), (48, .putfield 30, 3, 9, 12), (51, .aload_n 0, 1, 0, 0), (52, .bipush 32, 2, 0, 0), (54, .newarray .int, 2, 0, 0), (56, .putfield 33, 3, 9, 13), (59, .aload_n 0, 1, 0, 0), (60, .bipush 72, 2, 0, 0), (62, .newarray .byte, 2, 2, 0), (64, .putfield 36, 3, 9, 14), (67, .aload_n 0, 1, 0, 0), (68, .iconst 2, 1, 0, 0), (69, .invokevirtual 39, 3, 92, 1), (72, .return_, 1, 0, 0)]
def ipc_92 : List (Nat × Instr × Nat × Nat × Nat) := [(0, .aload_n 0, 1, 0, 0), (1, .getfield 8, 3, 9, 0), (4, .iconst 0, 1, 0, 0), (5, .iconst 0, 1, 0, 0), (6, .iastore, 1, 0, 0), (7, .iconst 0, 1, 0, 0), (8, .invokestatic 43, 3, 93, 1), (11, .istore_n 2, 1, 0, 0), (12, .iconst 0, 1, 0, 0), (13, .istore_n 3, 1, 0, 0), (14, .iload_n 3, 1, 0, 0), (15, .sipush 332, 3, 0, 0), (18, .if_icmp .ge 18, 3, 36, 0), (21, .aload_n 0, 1, 0, 0), (22, .getfield 8, 3, 9, 0), (25, .iload_n 2, 1, 0, 0), (26, .iload_n 3, 1, 0, 0), (27, .iadd, 1, 0, 0), (28, .iconst 0, 1, 0, 0), (29, .iastore, 1, 0, 0), (30, .iinc 3 1, 3, 0, 0), (33, .goto (-19), 3, 14, 0), (36, .aload_n 0, 1, 0, 0), (37, .getfield 8, 3, 9, 0), (40, .iload_n 2, 1, 0, 0), (41, .iconst 0, 1, 0, 0), (42, .iadd, 1, 0, 0), (43, .iload_n 1, 1, 0, 0), (44, .iastore, 1, 0, 0), (45, .aload_n 0, 1, 0, 0), (46, .getfield 8, 3, 9, 0), (49, .iload_n 2, 1, 0, 0), (50, .iconst 1, 1, 0, 0), (51, .iadd, 1, 0, 0), (52, .iconst 1, 1, 0, 0), (53, .iastore, 1, 0, 0), (54, .aload_n 0, 1, 0, 0), (55, .getfield 8, 3, 9, 0), (58, .iload_n 2, 1, 0, 0), (59, .iconst 2, 1, 0, 0), (60, .iadd, 1, 0, 0), (61, .iload_n 1, 1, 0, 0), (62, .iastore, 1, 0, 0), (63, .aload_n 0, 1, 0, 0), (64, .getfield 8, 3, 9, 0), (67, .iload_n 2, 1, 0, 0), (68, .iconst 3, 1, 0, 0), (69, .iadd, 1, 0, 0), (70, .iload_n 1, 1, 0, 0), (71, .iastore, 1, 0, 0), (72, .aload_n 0, 1, 0, 0), (73, .getfield 8, 3, 9, 0), (76, .iload_n 2, 1, 0, 0), (77, .bipush 36, 2, 0, 0), (79, .iadd, 1, 0, 0), (80, .iload_n 1, 1, 0, 0), (81, .iastore, 1, 0, 0), (82, .iconst 0, 1, 0, 0), (83, .istore_n 3, 1, 0, 0), (84, .iload_n 3, 1, 0, 0), (85, .iload_n 1, 1, 0, 0), (86, .if_icmp .ge 45, 3, 131, 0), (89, .aload_n 0, 1, 0, 0), (90, .getfield 8, 3, 9, 0), (93, .iload_n 2, 1, 0, 0), (94, .iconst 4, 1, 0, 0), (95, .iadd, 1, 0, 0), (96, .iload_n 3, 1, 0, 0), (97, .iadd, 1, 0, 0), (98, .iconst 3, 1, 0, 0), (99, .iastore, 1, 0, 0), (100, .aload_n 0, 1, 0, 0), (101, .getfield 8, 3, 9, 0), (104, .iload_n 2, 1, 0, 0), (105, .bipush 68, 2, 0, 0), (107, .iadd, 1, 0, 0), (108, .iload_n 3, 1, 0, 0), (109, .iadd, 1, 0, 0), (110, .iconst 1, 1, 0, 0), (111, .iastore, 1, 0, 0), (112, .aload_n 0, 1, 0, 0), (113, .getfield 8, 3, 9, 0), (116, .iload_n 2, 1, 0, 0), (117, .sipush 132, 3, 0, 0), (120, .iadd, 1, 0, 0), (121, .iload_n 3, 1, 0, 0), (122, .iadd, 1, 0, 0), (123, .iload_n 3, 1, 0, 0), (124, .iastore, 1, 0, 0), (125, .iinc 3 1, 3, 0, 0), (128, .goto (-44), 3, 84, 0), (131, .return_, 1, 0, 0)]
def ipc_93 : List (Nat × Instr × Nat × Nat × Nat) := [(0, .iconst 4, 1, 0, 0), (1, .sipush 332, 3, 0, 0), (4, .iload_n 0, 1, 0, 0), (5, .imul, 1, 0, 0), (6, .iadd, 1, 0, 0), (7, .ireturn, 1, 0, 0)]
def ipc_94 : List (Nat × Instr × Nat × Nat × Nat) := [(0, .aload_n 0, 1, 0, 0), (1, .getfield 8, 3, 9, 0), (4, .iconst 0, 1, 0, 0), (5, .iaload, 1, 0, 0), (6, .invokestatic 43, 3, 93, 1), (9, .ireturn, 1, 0, 0)]
def ipc_95 : List (Nat × Instr × Nat × Nat × Nat) := [(0, .iload_n 0, 1, 0, 0), (1, .ifCond .lt 12, 3, 13, 0), (4, .iload_n 0, 1, 0, 0), (5, .iload_n 1, 1, 0, 0), (6, .if_icmp .ge 7, 3, 13, 0), (9, .iconst 1, 1, 0, 0), (10, .goto 4, 3, 14, 0), (13, .iconst 0, 1, 0, 0), (14, .ireturn, 1, 0, 0)]
def ipc_96 : List (Nat × Instr × Nat × Nat × Nat) := [(0, .iload_n 1, 1, 0, 0), (1, .iconst 1, 1, 0, 0), (2, .if_icmp .lt 9, 3, 11, 0), (5, .iload_n 1, 1, 0, 0), (6, .bipush 8, 2, 0, 0), (8, .if_icmp .le 5, 3, 13, 0), (11, .iconst 0, 1, 0, 0), (12, .ireturn, 1, 0, 0), (13, .aload_n 0, 1, 0, 0), (14, .iload_n 1, 1, 0, 0), (15, .invokevirtual 39, 3, 92, 1), (18, .iconst 1, 1, 0, 0), (19, .ireturn, 1, 0, 0)]
def ipc_97 : List (Nat × Instr × Nat × Nat × Nat) := [(0, .iconst 0, 1, 0, 0), (1, .istore_n 3, 1, 0, 0), (2, .iconst 0, 1, 0, 0), (3, .istore 4, 2, 0, 0), (5, .iload 4, 2, 0, 0), (7, .iload_n 2, 1, 0, 0), (8, .if_icmp .ge 24, 3, 32, 0), (11, .iload_n 3, 1, 0, 0), (12, .aload_n 0, 1, 0, 0), (13, .getfield 8, 3, 9, 0), (16, .iload_n 1, 1, 0, 0), (17, .bipush 36, 2, 0, 0), (19, .iadd, 1, 0, 0), (20, .iload 4, 2, 0, 0), (22, .iadd, 1, 0, 0), (23, .iaload, 1, 0, 0), (24, .iadd, 1, 0, 0), (25, .istore_n 3, 1, 0, 0), (26, .iinc 4 1, 3, 0, 0), (29, .goto (-24), 3, 5, 0), (32, .iload_n 3, 1, 0, 0), (33, .ireturn, 1, 0, 0)]
def ipc_98 : List (Nat × Instr × Nat × Nat × Nat) := [(0, .iload_n 1, 1, 0, 0), (1, .sipush 132, 3, 0, 0), (4, .iadd, 1, 0, 0), (5, .istore_n 3, 1, 0, 0), (6, .iconst 0, 1, 0, 0), (7, .istore 4, 2, 0, 0), (9, .iload 4, 2, 0, 0), (11, .iload_n 2, 1, 0, 0), (12, .if_icmp .ge 24, 3, 36, 0), (15, .iload_n 3, 1, 0, 0), (16, .aload_n 0, 1, 0, 0), (17, .getfield 8, 3, 9, 0), (20, .iload_n 1, 1, 0, 0), (21, .bipush 68, 2, 0, 0), (23, .iadd, 1, 0, 0), (24, .iload 4, 2, 0, 0), (26, .iadd, 1, 0, 0), (27, .iaload, 1, 0, 0), (28, .iadd, 1, 0, 0), (29, .istore_n 3, 1, 0, 0), (30, .iinc 4 1, 3, 0, 0), (33, .goto (-24), 3, 9, 0), (36, .iload_n 3, 1, 0, 0), (37, .ireturn, 1, 0, 0)]
def ipc_99 : List (Nat × Instr × Nat × Nat × Nat) := [(0, .aload_n 0, 1, 0, 0), (1, .getfield 8, 3, 9, 0), (4, .iload_n 1, 1, 0, 0), (5, .bipush 68, 2, 0, 0), (7, .iadd, 1, 0, 0), (8, .aload_n 0, 1, 0, 0), (9, .getfield 8, 3, 9, 0), (12, .iload_n 1, 1, 0, 0), (13, .iconst 2, 1, 0, 0), (14, .iadd, 1, 0, 0), (15, .iaload, 1, 0, 0), (16, .iadd, 1, 0, 0), (17, .iconst 0, 1, 0, 0), (18, .iastore, 1, 0, 0), (19, .aload_n 0, 1, 0, 0), (20, .getfield 8, 3, 9, 0), (23, .iload_n 1, 1, 0, 0), (24, .iconst 2, 1, 0, 0), (25, .iadd, 1, 0, 0), (26, .dup2, 1, 0, 0), (27, .iaload, 1, 0, 0), (28, .iconst 1, 1, 0, 0), (29, .iadd, 1, 0, 0), (30, .iastore, 1, 0, 0), (31, .aload_n 0, 1, 0, 0), (32, .getfield 8, 3, 9, 0), (35, .iload_n 1, 1, 0, 0), (36, .bipush 36, 2, 0, 0), (38, .iadd, 1, 0, 0), (39, .aload_n 0, 1, 0, 0), (40, .getfield 8, 3, 9, 0), (43, .iload_n 1, 1, 0, 0), (44, .iconst 1, 1, 0, 0), (45, .iadd, 1, 0, 0), (46, .iaload, 1, 0, 0), (47, .iadd, 1, 0, 0), (48, .iconst 1, 1, 0, 0), (49, .isub, 1, 0, 0), (50, .dup2, 1, 0, 0), (51, .iaload, 1, 0, 0), (52, .iconst 1, 1, 0, 0), (53, .iadd, 1, 0, 0), (54, .iastore, 1, 0, 0), (55, .return_, 1, 0, 0)]
def ipc_100 : List (Nat × Instr × Nat × Nat × Nat) := [(0, .aload_n 0, 1, 0, 0), (1, .getfield 8, 3, 9, 0), (4, .iload_n 1, 1, 0, 0), (5, .bipush 36, 2, 0, 0), (7, .iadd, 1, 0, 0), (8, .aload_n 0, 1, 0, 0), (9, .getfield 8, 3, 9, 0), (12, .iload_n 1, 1, 0, 0), (13, .iconst 1, 1, 0, 0), (14, .iadd, 1, 0, 0), (15, .iaload, 1, 0, 0), (16, .iadd, 1, 0, 0), (17, .iconst 0, 1, 0, 0), (18, .iastore, 1, 0, 0), (19, .aload_n 0, 1, 0, 0), (20, .getfield 8, 3, 9, 0), (23, .iload_n 1, 1, 0, 0), (24, .iconst 1, 1, 0, 0), (25, .iadd, 1, 0, 0), (26, .dup2, 1, 0, 0), (27, .iaload, 1, 0, 0), (28, .iconst 1, 1, 0, 0), (29, .iadd, 1, 0, 0), (30, .iastore, 1, 0, 0), (31, .return_, 1, 0, 0)]
def ipc_101 : List (Nat × Instr × Nat × Nat × Nat) := [(0, .aload_n 0, 1, 0, 0), (1, .getfield 8, 3, 9, 0), (4, .iload_n 1, 1, 0, 0), (5, .sipush 132, 3, 0, 0), (8, .iadd, 1, 0, 0), (9, .aload_n 0, 1, 0, 0), (10, .getfield 8, 3, 9, 0), (13, .iload_n 1, 1, 0, 0), (14, .iconst 3, 1, 0, 0), (15, .iadd, 1, 0, 0), (16, .iaload, 1, 0, 0), (17, .iadd, 1, 0, 0), (18, .iload_n 2, 1, 0, 0), (19, .iastore, 1, 0, 0), (20, .aload_n 0, 1, 0, 0), (21, .getfield 8, 3, 9, 0), (24, .iload_n 1, 1, 0, 0), (25, .iconst 3, 1, 0, 0), (26, .iadd, 1, 0, 0), (27, .dup2, 1, 0, 0), (28, .iaload, 1, 0, 0), (29, .iconst 1, 1, 0, 0), (30, .iadd, 1, 0, 0), (31, .iastore, 1, 0, 0), (32, .aload_n 0, 1, 0, 0), (33, .getfield 8, 3, 9, 0), (36, .iload_n 1, 1, 0, 0), (37, .bipush 68, 2, 0, 0), (39, .iadd, 1, 0, 0), (40, .aload_n 0, 1, 0, 0), (41, .getfield 8, 3, 9, 0), (44, .iload_n 1, 1, 0, 0), (45, .iconst 2, 1, 0, 0), (46, .iadd, 1, 0, 0), (47, .iaload, 1, 0, 0), (48, .iadd, 1, 0, 0), (49, .iconst 1, 1, 0, 0), (50, .isub, 1, 0, 0), (51, .dup2, 1, 0, 0), (52, .iaload, 1, 0, 0), (53, .iconst 1, 1, 0, 0), (54, .iadd, 1, 0, 0), (55, .iastore, 1, 0, 0), (56, .return_, 1, 0, 0)]
def ipc_102 : List (Nat × Instr × Nat × Nat × Nat) := [(0, .aload_n 0, 1, 0, 0), (1, .iload_n 3, 1, 0, 0), (2, .invokevirtual 47, 3, 99, 1), (5, .aload_n 0, 1, 0, 0), (6, .iload_n 1, 1, 0, 0), (7, .iload_n 2, 1, 0, 0), (8, .invokevirtual 50, 3, 98, 2), (11, .istore 4, 2, 0, 0), (13, .iconst 0, 1, 0, 0), (14, .istore 5, 2, 0, 0), (16, .iload 5, 2, 0, 0), (18, .aload_n 0, 1, 0, 0), (19, .getfield 8, 3, 9, 0), (22, .iload_n 1, 1, 0, 0), (23, .bipush 68, 2, 0, 0), (25, .iadd, 1, 0, 0), (26, .iload_n 2, 1, 0, 0), (27, .iadd, 1, 0, 0), (28, .iaload, 1, 0, 0), (29, .if_icmp .ge 24, 3, 53, 0), (32, .aload_n 0, 1, 0, 0), (33, .iload_n 3, 1, 0, 0), (34, .aload_n 0, 1, 0, 0), (35, .getfield 8, 3, 9, 0), (38, .iload 4, 2, 0, 0), (40, .iload 5, 2, 0, 0), (42, .iadd, 1, 0, 0), (43, .iaload, 1, 0, 0), (44, .invokevirtual 54, 3, 101, 2), (47, .iinc 5 1, 3, 0, 0), (50, .goto (-34), 3, 16, 0), (53, .return_, 1, 0, 0)]
def ipc_103 : List (Nat × Instr × Nat × Nat × Nat) := [(0, .aload_n 0, 1, 0, 0), (1, .iload_n 1, 1, 0, 0), (2, .iload_n 2, 1, 0, 0), (3, .invokevirtual 50, 3, 98, 2), (6, .istore 6, 2, 0, 0), (8, .iload_n 3, 1, 0, 0), (9, .istore 7, 2, 0, 0), (11, .iload 7, 2, 0, 0), (13, .iload 4, 2, 0, 0), (15, .if_icmp .gt 25, 3, 40, 0), (18, .aload_n 0, 1, 0, 0), (19, .iload 5, 2, 0, 0), (21, .aload_n 0, 1, 0, 0), (22, .getfield 8, 3, 9, 0), (25, .iload 6, 2, 0, 0), (27, .iload 7, 2, 0, 0), (29, .iadd, 1, 0, 0), (30, .iaload, 1, 0, 0), (31, .invokevirtual 54, 3, 101, 2), (34, .iinc 7 1, 3, 0, 0), (37, .goto (-26), 3, 11, 0), (40, .return_, 1, 0, 0)]
def ipc_104 : List (Nat × Instr × Nat × Nat × Nat) := [(0, .aload_n 0, 1, 0, 0), (1, .getfield 8, 3, 9, 0), (4, .iload_n 1, 1, 0, 0), (5, .bipush 68, 2, 0, 0), (7, .iadd, 1, 0, 0), (8, .iload_n 2, 1, 0, 0), (9, .iadd, 1, 0, 0), (10, .iaload, 1, 0, 0), (11, .istore 5, 2, 0, 0), (13, .aload_n 0, 1, 0, 0), (14, .getfield 8, 3, 9, 0), (17, .aload_n 0, 1, 0, 0), (18, .iload_n 1, 1, 0, 0), (19, .iload_n 2, 1, 0, 0), (20, .invokevirtual 50, 3, 98, 2), (23, .iload_n 3, 1, 0, 0), (24, .iadd, 1, 0, 0), (25, .iaload, 1, 0, 0), (26, .istore 6, 2, 0, 0), (28, .aload_n 0, 1, 0, 0), (29, .iload_n 1, 1, 0, 0), (30, .iload_n 2, 1, 0, 0), (31, .iload_n 3, 1, 0, 0), (32, .iload 5, 2, 0, 0), (34, .iconst 1, 1, 0, 0), (35, .isub, 1, 0, 0), (36, .iload 4, 2, 0, 0), (38, .invokevirtual 58, 3, 103, 5), (41, .aload_n 0, 1, 0, 0), (42, .getfield 8, 3, 9, 0), (45, .iload_n 1, 1, 0, 0), (46, .iconst 4, 1, 0, 0), (47, .iadd, 1, 0, 0), (48, .iload 6, 2, 0, 0), (50, .iadd, 1, 0, 0), (51, .iaload, 1, 0, 0), (52, .iconst 3, 1, 0, 0), (53, .if_icmp .ne 4, 3, 57, 0), (56, .return_, 1, 0, 0), (57, .aload_n 0, 1, 0, 0), (58, .iload_n 1, 1, 0, 0), (59, .iload_n 2, 1, 0, 0), (60, .iconst 0, 1, 0, 0), (61, .iload_n 3, 1, 0, 0), (62, .iload 4, 2, 0, 0), (64, .invokevirtual 58, 3, 103, 5), (67, .return_, 1, 0, 0)]
def ipc_105 : List (Nat × Instr × Nat × Nat × Nat) := [(0, .aload_n 0, 1, 0, 0), (1, .getfield 8, 3, 9, 0), (4, .aload_n 0, 1, 0, 0), (5, .iload_n 1, 1, 0, 0), (6, .aload_n 0, 1, 0, 0), (7, .iload_n 1, 1, 0, 0), (8, .iload_n 2, 1, 0, 0), (9, .invokevirtual 62, 3, 97, 2), (12, .iload_n 3, 1, 0, 0), (13, .iadd, 1, 0, 0), (14, .invokevirtual 50, 3, 98, 2), (17, .iload 4, 2, 0, 0), (19, .iadd, 1, 0, 0), (20, .iaload, 1, 0, 0), (21, .ireturn, 1, 0, 0)]
def ipc_106 : List (Nat × Instr × Nat × Nat × Nat) := [(0, .aload_n 0, 1, 0, 0), (1, .iload_n 1, 1, 0, 0), (2, .iload_n 2, 1, 0, 0), (3, .iload_n 3, 1, 0, 0), (4, .iload 4, 2, 0, 0), (6, .invokevirtual 65, 3, 105, 4), (9, .istore 7, 2, 0, 0), (11, .aload_n 0, 1, 0, 0), (12, .iload_n 1, 1, 0, 0), (13, .iload_n 2, 1, 0, 0), (14, .iload 5, 2, 0, 0), (16, .iload 6, 2, 0, 0), (18, .invokevirtual 65, 3, 105, 4), (21, .istore 8, 2, 0, 0), (23, .aload_n 0, 1, 0, 0), (24, .getfield 8, 3, 9, 0), (27, .iload_n 1, 1, 0, 0), (28, .iconst 4, 1, 0, 0), (29, .iadd, 1, 0, 0), (30, .iload 7, 2, 0, 0), (32, .iadd, 1, 0, 0), (33, .iaload, 1, 0, 0), (34, .iload 7, 2, 0, 0), (36, .iload 8, 2, 0, 0), (38, .if_icmp .ne 7, 3, 45, 0), (41, .iconst 1, 1, 0, 0), (42, .goto 4, 3, 46, 0), (45, .iconst 0, 1, 0, 0), (46, .if_icmp .le 21, 3, 67, 0), (49, .aload_n 0, 1, 0, 0), (50, .getfield 8, 3, 9, 0), (53, .iload_n 1, 1, 0, 0), (54, .iconst 4, 1, 0, 0), (55, .iadd, 1, 0, 0), (56, .iload 8, 2, 0, 0), (58, .iadd, 1, 0, 0), (59, .iaload, 1, 0, 0), (60, .ifCond .le 7, 3, 67, 0), (63, .iconst 1, 1, 0, 0), (64, .goto 4, 3, 68, 0), (67, .iconst 0, 1, 0, 0), (68, .ireturn, 1, 0, 0)]
def ipc_107 : List (Nat × Instr × Nat × Nat × Nat) := [(0, .aload_n 0, 1, 0, 0), (1, .getfield 8, 3, 9, 0), (4, .iload_n 1, 1, 0, 0), (5, .iconst 0, 1, 0, 0), (6, .iadd, 1, 0, 0), (7, .iconst 0, 1, 0, 0), (8, .iastore, 1, 0, 0), (9, .aload_n 0, 1, 0, 0), (10, .getfield 8, 3, 9, 0), (13, .iload_n 1, 1, 0, 0), (14, .iconst 1, 1, 0, 0), (15, .iadd, 1, 0, 0), (16, .iconst 0, 1, 0, 0), (17, .iastore, 1, 0, 0), (18, .aload_n 0, 1, 0, 0), (19, .getfield 8, 3, 9, 0), (22, .iload_n 1, 1, 0, 0), (23, .iconst 2, 1, 0, 0), (24, .iadd, 1, 0, 0), (25, .iconst 0, 1, 0, 0), (26, .iastore, 1, 0, 0), (27, .aload_n 0, 1, 0, 0), (28, .getfield 8, 3, 9, 0), (31, .iload_n 1, 1, 0, 0), (32, .iconst 3, 1, 0, 0), (33, .iadd, 1, 0, 0), (34, .iconst 0, 1, 0, 0), (35, .iastore, 1, 0, 0), (36, .return_, 1, 0, 0)]
def ipc_108 : List (Nat × Instr × Nat × Nat × Nat) := [(0, .aload_n 0, 1, 0, 0), (1, .iload_n 1, 1, 0, 0), (2, .iload_n 3, 1, 0, 0), (3, .iload 4, 2, 0, 0), (5, .iload 5, 2, 0, 0), (7, .invokevirtual 65, 3, 105, 4), (10, .istore 9, 2, 0, 0), (12, .aload_n 0, 1, 0, 0), (13, .iload_n 1, 1, 0, 0), (14, .iload_n 3, 1, 0, 0), (15, .iload 6, 2, 0, 0), (17, .iload 7, 2, 0, 0), (19, .invokevirtual 65, 3, 105, 4), (22, .istore 10, 2, 0, 0), (24, .aload_n 0, 1, 0, 0), (25, .getfield 8, 3, 9, 0), (28, .iload_n 1, 1, 0, 0), (29, .iconst 0, 1, 0, 0), (30, .iadd, 1, 0, 0), (31, .iaload, 1, 0, 0), (32, .istore 11, 2, 0, 0), (34, .aload_n 0, 1, 0, 0), (35, .iload_n 2, 1, 0, 0), (36, .invokevirtual 69, 3, 107, 1), (39, .aload_n 0, 1, 0, 0), (40, .getfield 8, 3, 9, 0), (43, .iload_n 2, 1, 0, 0), (44, .iconst 0, 1, 0, 0), (45, .iadd, 1, 0, 0), (46, .iload 11, 2, 0, 0), (48, .iconst 1, 1, 0, 0), (49, .iadd, 1, 0, 0), (50, .iastore, 1, 0, 0), (51, .iconst 0, 1, 0, 0), (52, .istore 12, 2, 0, 0), (54, .iload 12, 2, 0, 0), (56, .iload 11, 2, 0, 0), (58, .if_icmp .ge 57, 3, 115, 0), (61, .aload_n 0, 1, 0, 0), (62, .getfield 8, 3, 9, 0), (65, .iload_n 2, 1, 0, 0), (66, .iconst 4, 1, 0, 0), (67, .iadd, 1, 0, 0), (68, .iload 12, 2, 0, 0), (70, .iadd, 1, 0, 0), (71, .aload_n 0, 1, 0, 0), (72, .getfield 8, 3, 9, 0), (75, .iload_n 1, 1, 0, 0), (76, .iconst 4, 1, 0, 0), (77, .iadd, 1, 0, 0), (78, .iload 12, 2, 0, 0), (80, .iadd, 1, 0, 0), (81, .iaload, 1, 0, 0), (82, .iload 12, 2, 0, 0), (84, .iload 9, 2, 0, 0), (86, .if_icmp .ne 7, 3, 93, 0), (89, .iconst 1, 1, 0, 0), (90, .goto 4, 3, 94, 0), (93, .iconst 0, 1, 0, 0), (94, .isub, 1, 0, 0), (95, .iload 12, 2, 0, 0), (97, .iload 10, 2, 0, 0), (99, .if_icmp .ne 7, 3, 106, 0), (102, .iconst 1, 1, 0, 0), (103, .goto 4, 3, 107, 0), (106, .iconst 0, 1, 0, 0), (107, .isub, 1, 0, 0), (108, .iastore, 1, 0, 0), (109, .iinc 12 1, 3, 0, 0), (112, .goto (-58), 3, 54, 0), (115, .aload_n 0, 1, 0, 0), (116, .getfield 8, 3, 9, 0), (119, .iload_n 2, 1, 0, 0), (120, .iconst 4, 1, 0, 0), (121, .iadd, 1, 0, 0), (122, .iload 11, 2, 0, 0), (124, .iadd, 1, 0, 0), (125, .iconst 1, 1, 0, 0), (126, .iastore, 1, 0, 0), (127, .iconst 0, 1, 0, 0), (128, .istore 12, 2, 0, 0), (130, .iconst 0, 1, 0, 0), (131, .istore 13, 2, 0, 0), (133, .iload 13, 2, 0, 0), (135, .aload_n 0, 1, 0, 0), (136, .getfield 8, 3, 9, 0), (139, .iload_n 1, 1, 0, 0), (140, .iconst 1, 1, 0, 0), (141, .iadd, 1, 0, 0), (142, .iaload, 1, 0, 0), (143, .if_icmp .ge 121, 3, 264, 0), (146, .aload_n 0, 1, 0, 0), (147, .iload_n 2, 1, 0, 0), (148, .invokevirtual 72, 3, 100, 1), (151, .aload_n 0, 1, 0, 0), (152, .getfield 8, 3, 9, 0), (155, .iload_n 1, 1, 0, 0), (156, .bipush 36, 2, 0, 0), (158, .iadd, 1, 0, 0), (159, .iload 13, 2, 0, 0), (161, .iadd, 1, 0, 0), (162, .iaload, 1, 0, 0), (163, .istore 14, 2, 0, 0), (165, .iload 13, 2, 0, 0), (167, .iload_n 3, 1, 0, 0), (168, .if_icmp .eq 33, 3, 201, 0), (171, .iconst 0, 1, 0, 0), (172, .istore 15, 2, 0, 0), (174, .iload 15, 2, 0, 0), (176, .iload 14, 2, 0, 0), (178, .if_icmp .ge 20, 3, 198, 0), (181, .aload_n 0, 1, 0, 0), (182, .iload_n 1, 1, 0, 0), (183, .iload 12, 2, 0, 0), (185, .iload 15, 2, 0, 0), (187, .iadd, 1, 0, 0), (188, .iload_n 2, 1, 0, 0), (189, .invokevirtual 75, 3, 102, 3), (192, .iinc 15 1, 3, 0, 0), (195, .goto (-21), 3, 174, 0), (198, .goto 53, 3, 251, 0), (201, .iload 4, 2, 0, 0), (203, .iload 6, 2, 0, 0), (205, .if_icmp .eq 26, 3, 231, 0), (208, .aload_n 0, 1, 0, 0), (209, .iload_n 1, 1, 0, 0), (210, .iload_n 2, 1, 0, 0), (211, .iload 12, 2, 0, 0), (213, .iload 14, 2, 0, 0), (215, .iload 4, 2, 0, 0), (217, .iload 5, 2, 0, 0), (219, .iload 6, 2, 0, 0), (221, .iload 7, 2, 0, 0), (223, .iload 11, 2, 0, 0), (225, .invokevirtual 79, 3, 109, 9), (228, .goto 23, 3, 251, 0), (231, .aload_n 0, 1, 0, 0), (232, .iload_n 1, 1, 0, 0), (233, .iload_n 2, 1, 0, 0), (234, .iload 12, 2, 0, 0), (236, .iload 14, 2, 0, 0), (238, .iload 4, 2, 0, 0), (240, .iload 5, 2, 0, 0), (242, .iload 7, 2, 0, 0), (244, .iload 11, 2, 0, 0), (246, .iload 8, 2, 0, 0), (248, .invokevirtual 83, 3, 110, 9), (251, .iload 12, 2, 0, 0), (253, .iload 14, 2, 0, 0), (255, .iadd, 1, 0, 0), (256, .istore 12, 2, 0, 0), (258, .iinc 13 1, 3, 0, 0), (261, .goto (-128), 3, 133, 0), (264, .iload 4, 2, 0, 0), (266, .iload 6, 2, 0, 0), (268, .if_icmp .eq 6, 3, 274, 0), (271, .iload 11, 2, 0, 0), (273, .ireturn, 1, 0, 0), (274, .aload_n 0, 1, 0, 0), (275, .iload_n 2, 1, 0, 0), (276, .invokevirtual 72, 3, 100, 1), (279, .aload_n 0, 1, 0, 0), (280, .iload_n 1, 1, 0, 0), (281, .iload_n 3, 1, 0, 0), (282, .invokevirtual 62, 3, 97, 2), (285, .istore 13, 2, 0, 0), (287, .aload_n 0, 1, 0, 0), (288, .iload_n 2, 1, 0, 0), (289, .invokevirtual 47, 3, 99, 1), (292, .iload 5, 2, 0, 0), (294, .iload 7, 2, 0, 0), (296, .if_icmp .ne 19, 3, 315, 0), (299, .aload_n 0, 1, 0, 0), (300, .iload_n 1, 1, 0, 0), (301, .iload 13, 2, 0, 0), (303, .iload 4, 2, 0, 0), (305, .iadd, 1, 0, 0), (306, .iload 5, 2, 0, 0), (308, .iload_n 2, 1, 0, 0), (309, .invokevirtual 86, 3, 104, 4), (312, .goto 47, 3, 359, 0), (315, .aload_n 0, 1, 0, 0), (316, .iload_n 1, 1, 0, 0), (317, .iload 13, 2, 0, 0), (319, .iload 4, 2, 0, 0), (321, .iadd, 1, 0, 0), (322, .iload 7, 2, 0, 0), (324, .aload_n 0, 1, 0, 0), (325, .getfield 8, 3, 9, 0), (328, .iload_n 1, 1, 0, 0), (329, .bipush 68, 2, 0, 0), (331, .iadd, 1, 0, 0), (332, .iload 13, 2, 0, 0), (334, .iadd, 1, 0, 0), (335, .iload 4, 2, 0, 0), (337, .iadd, 1, 0, 0), (338, .iaload, 1, 0, 0), (339, .iconst 1, 1, 0, 0), (340, .isub, 1, 0, 0), (341, .iload_n 2, 1, 0, 0), (342, .invokevirtual 58, 3, 103, 5), (345, .aload_n 0, 1, 0, 0), (346, .iload_n 1, 1, 0, 0), (347, .iload 13, 2, 0, 0), (349, .iload 4, 2, 0, 0), (351, .iadd, 1, 0, 0), (352, .iconst 0, 1, 0, 0), (353, .iload 5, 2, 0, 0), (355, .iload_n 2, 1, 0, 0), (356, .invokevirtual 58, 3, 103, 5), (359, .aload_n 0, 1, 0, 0), (360, .iload_n 2, 1, 0, 0), (361, .iload 11, 2, 0, 0), (363, .invokevirtual 54, 3, 101, 2), (366, .aload_n 0, 1, 0, 0), (367, .iload_n 1, 1, 0, 0), (368, .iload_n 2, 1, 0, 0), (369, .iload 13, 2, 0, 0), (371, .aload_n 0, 1, 0, 0), (372, .getfield 8, 3, 9, 0), (375, .iload_n 1, 1, 0, 0), (376, .bipush 36, 2, 0, 0), (378, .iadd, 1, 0, 0), (379, .iload_n 3, 1, 0, 0), (380, .iadd, 1, 0, 0), (381, .iaload, 1, 0, 0), (382, .iload 4, 2, 0, 0), (384, .iload 8, 2, 0, 0), (386, .iconst 1, 1, 0, 0), (387, .invokevirtual 90, 3, 111, 7), (390, .iload 11, 2, 0, 0), (392, .ireturn, 1, 0, 0)]
def ipc_109 : List (Nat × Instr × Nat × Nat × Nat) := [(0, .iconst 0, 1, 0, 0), (1, .istore 10, 2, 0, 0), (3, .iload 10, 2, 0, 0), (5, .iload 4, 2, 0, 0), (7, .if_icmp .ge 79, 3, 86, 0), (10, .iload 10, 2, 0, 0), (12, .iload 5, 2, 0, 0), (14, .if_icmp .ne 49, 3, 63, 0), (17, .aload_n 0, 1, 0, 0), (18, .iload_n 2, 1, 0, 0), (19, .invokevirtual 47, 3, 99, 1), (22, .aload_n 0, 1, 0, 0), (23, .iload_n 1, 1, 0, 0), (24, .iload_n 3, 1, 0, 0), (25, .iload 5, 2, 0, 0), (27, .iadd, 1, 0, 0), (28, .iload 6, 2, 0, 0), (30, .iload_n 2, 1, 0, 0), (31, .invokevirtual 86, 3, 104, 4), (34, .aload_n 0, 1, 0, 0), (35, .iload_n 2, 1, 0, 0), (36, .iload 9, 2, 0, 0), (38, .invokevirtual 54, 3, 101, 2), (41, .aload_n 0, 1, 0, 0), (42, .iload_n 1, 1, 0, 0), (43, .iload_n 3, 1, 0, 0), (44, .iload 7, 2, 0, 0), (46, .iadd, 1, 0, 0), (47, .iload 8, 2, 0, 0), (49, .iload_n 2, 1, 0, 0), (50, .invokevirtual 86, 3, 104, 4), (53, .aload_n 0, 1, 0, 0), (54, .iload_n 2, 1, 0, 0), (55, .iload 9, 2, 0, 0), (57, .invokevirtual 54, 3, 101, 2), (60, .goto 20, 3, 80, 0), (63, .iload 10, 2, 0, 0), (65, .iload 7, 2, 0, 0), (67, .if_icmp .eq 13, 3, 80, 0), (70, .aload_n 0, 1, 0, 0), (71, .iload_n 1, 1, 0, 0), (72, .iload_n 3, 1, 0, 0), (73, .iload 10, 2, 0, 0), (75, .iadd, 1, 0, 0), (76, .iload_n 2, 1, 0, 0), (77, .invokevirtual 75, 3, 102, 3), (80, .iinc 10 1, 3, 0, 0), (83, .goto (-80), 3, 3, 0), (86, .return_, 1, 0, 0)]
def ipc_110 : List (Nat × Instr × Nat × Nat × Nat) := [(0, .aload_n 0, 1, 0, 0), (1, .iload_n 2, 1, 0, 0), (2, .invokevirtual 47, 3, 99, 1), (5, .aload_n 0, 1, 0, 0), (6, .iload_n 1, 1, 0, 0), (7, .iload_n 3, 1, 0, 0), (8, .iload 5, 2, 0, 0), (10, .iadd, 1, 0, 0), (11, .iload 6, 2, 0, 0), (13, .iload 7, 2, 0, 0), (15, .iload_n 2, 1, 0, 0), (16, .invokevirtual 58, 3, 103, 5), (19, .aload_n 0, 1, 0, 0), (20, .iload_n 2, 1, 0, 0), (21, .iload 8, 2, 0, 0), (23, .invokevirtual 54, 3, 101, 2), (26, .aload_n 0, 1, 0, 0), (27, .iload_n 1, 1, 0, 0), (28, .iload_n 2, 1, 0, 0), (29, .iload_n 3, 1, 0, 0), (30, .iload 4, 2, 0, 0), (32, .iload 5, 2, 0, 0), (34, .iload 9, 2, 0, 0), (36, .iconst 0, 1, 0, 0), (37, .invokevirtual 90, 3, 111, 7), (40, .return_, 1, 0, 0)]
def ipc_111 : List (Nat × Instr × Nat × Nat × Nat) := [(0, .iconst 0, 1, 0, 0), (1, .istore 8, 2, 0, 0), (3, .iconst 0, 1, 0, 0), (4, .istore 9, 2, 0, 0), (6, .iload 9, 2, 0, 0), (8, .iload 4, 2, 0, 0), (10, .if_icmp .ge 44, 3, 54, 0), (13, .iload 9, 2, 0, 0), (15, .iload 5, 2, 0, 0), (17, .if_icmp .ne 6, 3, 23, 0), (20, .goto 28, 3, 48, 0), (23, .iload 6, 2, 0, 0), (25, .iload 8, 2, 0, 0), (27, .ishr, 1, 0, 0), (28, .iconst 1, 1, 0, 0), (29, .iand, 1, 0, 0), (30, .iload 7, 2, 0, 0), (32, .if_icmp .ne 13, 3, 45, 0), (35, .aload_n 0, 1, 0, 0), (36, .iload_n 1, 1, 0, 0), (37, .iload_n 3, 1, 0, 0), (38, .iload 9, 2, 0, 0), (40, .iadd, 1, 0, 0), (41, .iload_n 2, 1, 0, 0), (42, .invokevirtual 75, 3, 102, 3), (45, .iinc 8 1, 3, 0, 0), (48, .iinc 9 1, 3, 0, 0), (51, .goto (-45), 3, 6, 0), (54, .return_, 1, 0, 0)]
def ipc_112 : List (Nat × Instr × Nat × Nat × Nat) := [(0, .aload_n 0, 1, 0, 0), (1, .iconst 0, 1, 0, 0), (2, .putfield 94, 3, 9, 6), (5, .aload_n 0, 1, 0, 0), (6, .iconst 0, 1, 0, 0), (7, .putfield 98, 3, 9, 7), (10, .aload_n 0, 1, 0, 0), (11, .iconst 0, 1, 0, 0), (12, .putfield 101, 3, 9, 8), (15, .aload_n 0, 1, 0, 0), (16, .iconst 0, 1, 0, 0), (17, .putfield 104, 3, 9, 9), (20, .aload_n 0, 1, 0, 0), (21, .iconst 0, 1, 0, 0), (22, .putfield 107, 3, 9, 10), (25, .aload_n 0, 1, 0, 0), (26, .iconst (-1), 1, 0, 0), (27, .putfield 110, 3, 9, 11), (30, .return_, 1, 0, 0)]
def ipc_113 : List (Nat × Instr × Nat × Nat × Nat) := [(0, .aload_n 0, 1, 0, 0), (1, .getfield 8, 3, 9, 0), (4, .iload_n 1, 1, 0, 0), (5, .bipush 68, 2, 0, 0), (7, .iadd, 1, 0, 0), (8, .aload_n 0, 1, 0, 0), (9, .iload_n 1, 1, 0, 0), (10, .iload_n 2, 1, 0, 0), (11, .invokevirtual 62, 3, 97, 2), (14, .iadd, 1, 0, 0), (15, .iload_n 3, 1, 0, 0), (16, .iadd, 1, 0, 0), (17, .iaload, 1, 0, 0), (18, .ireturn, 1, 0, 0)]
def ipc_114 : List (Nat × Instr × Nat × Nat × Nat) := [(0, .aload_n 0, 1, 0, 0), (1, .iload_n 1, 1, 0, 0), (2, .invokevirtual 113, 3, 116, 1), (5, .ifCond .eq 33, 3, 38, 0), (8, .aload_n 0, 1, 0, 0), (9, .iload_n 1, 1, 0, 0), (10, .aload_n 0, 1, 0, 0), (11, .getfield 94, 3, 9, 6), (14, .aload_n 0, 1, 0, 0), (15, .getfield 98, 3, 9, 7), (18, .aload_n 0, 1, 0, 0), (19, .getfield 101, 3, 9, 8), (22, .aload_n 0, 1, 0, 0), (23, .getfield 104, 3, 9, 9), (26, .aload_n 0, 1, 0, 0), (27, .getfield 107, 3, 9, 10), (30, .invokevirtual 117, 3, 106, 6), (33, .ifCond .eq (-33), 3, 0, 0), (36, .iconst 1, 1, 0, 0), (37, .ireturn, 1, 0, 0), (38, .iconst 0, 1, 0, 0), (39, .ireturn, 1, 0, 0)]
def ipc_115 : List (Nat × Instr × Nat × Nat × Nat) := [(0, .aload_n 0, 1, 0, 0), (1, .getfield 94, 3, 9, 6), (4, .aload_n 0, 1, 0, 0), (5, .getfield 8, 3, 9, 0), (8, .iload_n 1, 1, 0, 0), (9, .iconst 1, 1, 0, 0), (10, .iadd, 1, 0, 0), (11, .iaload, 1, 0, 0), (12, .if_icmp .ge 89, 3, 101, 0), (15, .aload_n 0, 1, 0, 0), (16, .getfield 98, 3, 9, 7), (19, .aload_n 0, 1, 0, 0), (20, .getfield 8, 3, 9, 0), (23, .iload_n 1, 1, 0, 0), (24, .bipush 36, 2, 0, 0), (26, .iadd, 1, 0, 0), (27, .aload_n 0, 1, 0, 0), (28, .getfield 94, 3, 9, 6), (31, .iadd, 1, 0, 0), (32, .iaload, 1, 0, 0), (33, .if_icmp .ge 68, 3, 101, 0), (36, .aload_n 0, 1, 0, 0), (37, .getfield 101, 3, 9, 8), (40, .aload_n 0, 1, 0, 0), (41, .iload_n 1, 1, 0, 0), (42, .aload_n 0, 1, 0, 0), (43, .getfield 94, 3, 9, 6), (46, .aload_n 0, 1, 0, 0), (47, .getfield 98, 3, 9, 7), (50, .invokevirtual 121, 3, 113, 3), (53, .if_icmp .ge 48, 3, 101, 0), (56, .aload_n 0, 1, 0, 0), (57, .getfield 104, 3, 9, 9), (60, .aload_n 0, 1, 0, 0), (61, .getfield 8, 3, 9, 0), (64, .iload_n 1, 1, 0, 0), (65, .bipush 36, 2, 0, 0), (67, .iadd, 1, 0, 0), (68, .aload_n 0, 1, 0, 0), (69, .getfield 94, 3, 9, 6), (72, .iadd, 1, 0, 0), (73, .iaload, 1, 0, 0), (74, .if_icmp .ge 27, 3, 101, 0), (77, .aload_n 0, 1, 0, 0), (78, .getfield 107, 3, 9, 10), (81, .aload_n 0, 1, 0, 0), (82, .iload_n 1, 1, 0, 0), (83, .aload_n 0, 1, 0, 0), (84, .getfield 94, 3, 9, 6), (87, .aload_n 0, 1, 0, 0), (88, .getfield 104, 3, 9, 9), (91, .invokevirtual 121, 3, 113, 3), (94, .if_icmp .ge 7, 3, 101, 0), (97, .iconst 1, 1, 0, 0), (98, .goto 4, 3, 102, 0), (101, .iconst 0, 1, 0, 0), (102, .ireturn, 1, 0, 0)]
def ipc_116 : List (Nat × Instr × Nat × Nat × Nat) := [(0, .aload_n 0, 1, 0, 0), (1, .iload_n 1, 1, 0, 0), (2, .invokevirtual 125, 3, 115, 1), (5, .ifCond .eq 94, 3, 99, 0), (8, .aload_n 0, 1, 0, 0), (9, .getfield 98, 3, 9, 7), (12, .aload_n 0, 1, 0, 0), (13, .getfield 104, 3, 9, 9), (16, .if_icmp .ne 24, 3, 40, 0), (19, .iconst 1, 1, 0, 0), (20, .aload_n 0, 1, 0, 0), (21, .getfield 8, 3, 9, 0), (24, .iload_n 1, 1, 0, 0), (25, .bipush 36, 2, 0, 0), (27, .iadd, 1, 0, 0), (28, .aload_n 0, 1, 0, 0), (29, .getfield 94, 3, 9, 6), (32, .iadd, 1, 0, 0), (33, .iaload, 1, 0, 0), (34, .iconst 1, 1, 0, 0), (35, .isub, 1, 0, 0), (36, .ishl, 1, 0, 0), (37, .goto 4, 3, 41, 0), (40, .iconst 1, 1, 0, 0), (41, .istore_n 2, 1, 0, 0), (42, .aload_n 0, 1, 0, 0), (43, .getfield 110, 3, 9, 11), (46, .ifCond .lt 41, 3, 87, 0), (49, .aload_n 0, 1, 0, 0), (50, .getfield 110, 3, 9, 11), (53, .iconst 1, 1, 0, 0), (54, .iadd, 1, 0, 0), (55, .iload_n 2, 1, 0, 0), (56, .if_icmp .ge 43, 3, 99, 0), (59, .aload_n 0, 1, 0, 0), (60, .iload_n 1, 1, 0, 0), (61, .aload_n 0, 1, 0, 0), (62, .getfield 94, 3, 9, 6), (65, .aload_n 0, 1, 0, 0), (66, .getfield 98, 3, 9, 7), (69, .aload_n 0, 1, 0, 0), (70, .getfield 101, 3, 9, 8), (73, .aload_n 0, 1, 0, 0), (74, .getfield 104, 3, 9, 9), (77, .aload_n 0, 1, 0, 0), (78, .getfield 107, 3, 9, 10), (81, .invokevirtual 117, 3, 106, 6), (84, .ifCond .eq 15, 3, 99, 0), (87, .aload_n 0, 1, 0, 0), (88, .dup, 1, 0, 0), (89, .getfield 110, 3, 9, 11), (92, .iconst 1, 1, 0, 0), (93, .iadd, 1, 0, 0), (94, .putfield 110, 3, 9, 11), (97, .iconst 1, 1, 0, 0), (98, .ireturn, 1, 0, 0), (99, .aload_n 0, 1, 0, 0), (100, .iconst 0, 1, 0, 0), (101, .putfield 110, 3, 9, 11), (104, .aload_n 0, 1, 0, 0), (105, .dup, 1, 0, 0), (106, .getfield 107, 3, 9, 10), (109, .iconst 1, 1, 0, 0), (110, .iadd, 1, 0, 0), (111, .putfield 107, 3, 9, 10), (114, .aload_n 0, 1, 0, 0), (115, .getfield 94, 3, 9, 6), (118, .aload_n 0, 1, 0, 0), (119, .getfield 8, 3, 9, 0), (122, .iload_n 1, 1, 0, 0), (123, .iconst 1, 1, 0, 0), (124, .iadd, 1, 0, 0), (125, .iaload, 1, 0, 0), (126, .if_icmp .ge 248, 3, 374, 0), (129, .aload_n 0, 1, 0, 0), (130, .iload_n 1, 1, 0, 0), (131, .invokevirtual 125, 3, 115, 1), (134, .ifCond .eq 5, 3, 139, 0), (137, .iconst 1, 1, 0, 0), (138, .ireturn, 1, 0, 0), (139, .aload_n 0, 1, 0, 0), (140, .getfield 98, 3, 9, 7), (143, .aload_n 0, 1, 0, 0), (144, .getfield 8, 3, 9, 0), (147, .iload_n 1, 1, 0, 0), (148, .bipush 36, 2, 0, 0), (150, .iadd, 1, 0, 0), (151, .aload_n 0, 1, 0, 0), (152, .getfield 94, 3, 9, 6), (155, .iadd, 1, 0, 0), (156, .iaload, 1, 0, 0), (157, .if_icmp .ge 62, 3, 219, 0), (160, .aload_n 0, 1, 0, 0), (161, .getfield 101, 3, 9, 8), (164, .aload_n 0, 1, 0, 0), (165, .iload_n 1, 1, 0, 0), (166, .aload_n 0, 1, 0, 0), (167, .getfield 94, 3, 9, 6), (170, .aload_n 0, 1, 0, 0), (171, .getfield 98, 3, 9, 7), (174, .invokevirtual 121, 3, 113, 3), (177, .if_icmp .ge 42, 3, 219, 0), (180, .aload_n 0, 1, 0, 0), (181, .getfield 104, 3, 9, 9), (184, .aload_n 0, 1, 0, 0), (185, .getfield 8, 3, 9, 0), (188, .iload_n 1, 1, 0, 0), (189, .bipush 36, 2, 0, 0), (191, .iadd, 1, 0, 0), (192, .aload_n 0, 1, 0, 0), (193, .getfield 94, 3, 9, 6), (196, .iadd, 1, 0, 0), (197, .iaload, 1, 0, 0), (198, .if_icmp .ge 21, 3, 219, 0), (201, .aload_n 0, 1, 0, 0), (202, .dup, 1, 0, 0), (203, .getfield 104, 3, 9, 9), (206, .iconst 1, 1, 0, 0), (207, .iadd, 1, 0, 0), (208, .putfield 104, 3, 9, 9), (211, .aload_n 0, 1, 0, 0), (212, .iconst 0, 1, 0, 0), (213, .putfield 107, 3, 9, 10), (216, .goto (-102), 3, 114, 0), (219, .aload_n 0, 1, 0, 0), (220, .getfield 98, 3, 9, 7), (223, .aload_n 0, 1, 0, 0), (224, .getfield 8, 3, 9, 0), (227, .iload_n 1, 1, 0, 0), (228, .bipush 36, 2, 0, 0), (230, .iadd, 1, 0, 0), (231, .aload_n 0, 1, 0, 0), (232, .getfield 94, 3, 9, 6), (235, .iadd, 1, 0, 0), (236, .iaload, 1, 0, 0), (237, .if_icmp .ge 52, 3, 289, 0), (240, .aload_n 0, 1, 0, 0), (241, .getfield 101, 3, 9, 8), (244, .aload_n 0, 1, 0, 0), (245, .iload_n 1, 1, 0, 0), (246, .aload_n 0, 1, 0, 0), (247, .getfield 94, 3, 9, 6), (250, .aload_n 0, 1, 0, 0), (251, .getfield 98, 3, 9, 7), (254, .invokevirtual 121, 3, 113, 3), (257, .if_icmp .ge 32, 3, 289, 0), (260, .aload_n 0, 1, 0, 0), (261, .dup, 1, 0, 0), (262, .getfield 101, 3, 9, 8), (265, .iconst 1, 1, 0, 0), (266, .iadd, 1, 0, 0), (267, .putfield 101, 3, 9, 8), (270, .aload_n 0, 1, 0, 0), (271, .aload_n 0, 1, 0, 0), (272, .getfield 98, 3, 9, 7), (275, .putfield 104, 3, 9, 9), (278, .aload_n 0, 1, 0, 0), (279, .aload_n 0, 1, 0, 0), (280, .getfield 101, 3, 9, 8), (283, .putfield 107, 3, 9, 10), (286, .goto (-172), 3, 114, 0), (289, .aload_n 0, 1, 0, 0), (290, .getfield 98, 3, 9, 7), (293, .aload_n 0, 1, 0, 0), (294, .getfield 8, 3, 9, 0), (297, .iload_n 1, 1, 0, 0), (298, .bipush 36, 2, 0, 0), (300, .iadd, 1, 0, 0), (301, .aload_n 0, 1, 0, 0), (302, .getfield 94, 3, 9, 6), (305, .iadd, 1, 0, 0), (306, .iaload, 1, 0, 0), (307, .if_icmp .ge 34, 3, 341, 0), (310, .aload_n 0, 1, 0, 0), (311, .dup, 1, 0, 0), (312, .getfield 98, 3, 9, 7), (315, .iconst 1, 1, 0, 0), (316, .iadd, 1, 0, 0), (317, .putfield 98, 3, 9, 7), (320, .aload_n 0, 1, 0, 0), (321, .iconst 0, 1, 0, 0), (322, .putfield 101, 3, 9, 8), (325, .aload_n 0, 1, 0, 0), (326, .aload_n 0, 1, 0, 0), (327, .getfield 98, 3, 9, 7), (330, .putfield 104, 3, 9, 9), (333, .aload_n 0, 1, 0, 0), (334, .iconst 0, 1, 0, 0), (335, .putfield 107, 3, 9, 10), (338, .goto (-224), 3, 114, 0), (341, .aload_n 0, 1, 0, 0), (342, .dup, 1, 0, 0), (343, .getfield 94, 3, 9, 6), (346, .iconst 1, 1, 0, 0), (347, .iadd, 1, 0, 0), (348, .putfield 94, 3, 9, 6), (351, .aload_n 0, 1, 0, 0), (352, .iconst 0, 1, 0, 0), (353, .putfield 98, 3, 9, 7), (356, .aload_n 0, 1, 0, 0), (357, .iconst 0, 1, 0, 0), (358, .putfield 101, 3, 9, 8), (361, .aload_n 0, 1, 0, 0), (362, .iconst 0, 1, 0, 0), (363, .putfield 104, 3, 9, 9), (366, .aload_n 0, 1, 0, 0), (367, .iconst 0, 1, 0, 0), (368, .putfield 107, 3, 9, 10), (371, .goto (-257), 3, 114, 0), (374, .iconst 0, 1, 0, 0), (375, .ireturn, 1, 0, 0)]
def ipc_117 : List (Nat × Instr × Nat × Nat × Nat) := [(0, .aload_n 0, 1, 0, 0), (1, .invokevirtual 128, 3, 94, 0), (4, .istore_n 2, 1, 0, 0), (5, .iconst 0, 1, 0, 0), (6, .istore_n 3, 1, 0, 0), (7, .iload_n 1, 1, 0, 0), (8, .tableswitch 86 0 5 #[40, 49, 58, 65, 71, 80], 40, 0, 0), (48, .aload_n 0, 1, 0, 0), (49, .getfield 8, 3, 9, 0), (52, .iload_n 2, 1, 0, 0), (53, .iconst 0, 1, 0, 0), (54, .iadd, 1, 0, 0), (55, .iaload, 1, 0, 0), (56, .ireturn, 1, 0, 0), (57, .aload_n 0, 1, 0, 0), (58, .getfield 8, 3, 9, 0), (61, .iload_n 2, 1, 0, 0), (62, .iconst 1, 1, 0, 0), (63, .iadd, 1, 0, 0), (64, .iaload, 1, 0, 0), (65, .ireturn, 1, 0, 0), (66, .aload_n 0, 1, 0, 0), (67, .getfield 8, 3, 9, 0), (70, .iconst 0, 1, 0, 0), (71, .iaload, 1, 0, 0), (72, .ireturn, 1, 0, 0), (73, .aload_n 0, 1, 0, 0), (74, .iload_n 2, 1, 0, 0), (75, .invokevirtual 132, 3, 118, 1), (78, .ireturn, 1, 0, 0), (79, .aload_n 0, 1, 0, 0), (80, .getfield 8, 3, 9, 0), (83, .iload_n 2, 1, 0, 0), (84, .iconst 2, 1, 0, 0), (85, .iadd, 1, 0, 0), (86, .iaload, 1, 0, 0), (87, .ireturn, 1, 0, 0), (88, .aload_n 0, 1, 0, 0), (89, .iload_n 2, 1, 0, 0), (90, .invokevirtual 135, 3, 119, 1), (93, .ireturn, 1, 0, 0), (94, .iconst (-1), 1, 0, 0), (95, .ireturn, 1, 0, 0)]
def ipc_118 : List (Nat × Instr × Nat × Nat × Nat) := [(0, .iconst 0, 1, 0, 0), (1, .istore_n 2, 1, 0, 0), (2, .iconst 0, 1, 0, 0), (3, .istore_n 3, 1, 0, 0), (4, .iload_n 3, 1, 0, 0), (5, .aload_n 0, 1, 0, 0), (6, .getfield 8, 3, 9, 0), (9, .iload_n 1, 1, 0, 0), (10, .iconst 0, 1, 0, 0), (11, .iadd, 1, 0, 0), (12, .iaload, 1, 0, 0), (13, .if_icmp .ge 22, 3, 35, 0), (16, .iload_n 2, 1, 0, 0), (17, .aload_n 0, 1, 0, 0), (18, .getfield 8, 3, 9, 0), (21, .iload_n 1, 1, 0, 0), (22, .iconst 4, 1, 0, 0), (23, .iadd, 1, 0, 0), (24, .iload_n 3, 1, 0, 0), (25, .iadd, 1, 0, 0), (26, .iaload, 1, 0, 0), (27, .iadd, 1, 0, 0), (28, .istore_n 2, 1, 0, 0), (29, .iinc 3 1, 3, 0, 0), (32, .goto (-28), 3, 4, 0), (35, .iload_n 2, 1, 0, 0), (36, .ireturn, 1, 0, 0)]
def ipc_119 : List (Nat × Instr × Nat × Nat × Nat) := [(0, .iconst 0, 1, 0, 0), (1, .istore_n 2, 1, 0, 0), (2, .iload_n 2, 1, 0, 0), (3, .aload_n 0, 1, 0, 0), (4, .getfield 8, 3, 9, 0), (7, .iload_n 1, 1, 0, 0), (8, .iconst 0, 1, 0, 0), (9, .iadd, 1, 0, 0), (10, .iaload, 1, 0, 0), (11, .if_icmp .ge 16, 3, 27, 0), (14, .aload_n 0, 1, 0, 0), (15, .getfield 30, 3, 9, 12), (18, .iload_n 2, 1, 0, 0), (19, .iload_n 2, 1, 0, 0), (20, .iastore, 1, 0, 0), (21, .iinc 2 1, 3, 0, 0), (24, .goto (-22), 3, 2, 0), (27, .iload_n 1, 1, 0, 0), (28, .sipush 132, 3, 0, 0), (31, .iadd, 1, 0, 0), (32, .istore_n 2, 1, 0, 0), (33, .iconst 0, 1, 0, 0), (34, .istore_n 3, 1, 0, 0), (35, .iload_n 3, 1, 0, 0), (36, .aload_n 0, 1, 0, 0), (37, .getfield 8, 3, 9, 0), (40, .iload_n 1, 1, 0, 0), (41, .iconst 2, 1, 0, 0), (42, .iadd, 1, 0, 0), (43, .iaload, 1, 0, 0), (44, .if_icmp .ge 68, 3, 112, 0), (47, .iconst 1, 1, 0, 0), (48, .istore 4, 2, 0, 0), (50, .iload 4, 2, 0, 0), (52, .aload_n 0, 1, 0, 0), (53, .getfield 8, 3, 9, 0), (56, .iload_n 1, 1, 0, 0), (57, .bipush 68, 2, 0, 0), (59, .iadd, 1, 0, 0), (60, .iload_n 3, 1, 0, 0), (61, .iadd, 1, 0, 0), (62, .iaload, 1, 0, 0), (63, .if_icmp .ge 29, 3, 92, 0), (66, .aload_n 0, 1, 0, 0), (67, .iload_n 1, 1, 0, 0), (68, .aload_n 0, 1, 0, 0), (69, .getfield 8, 3, 9, 0), (72, .iload_n 2, 1, 0, 0), (73, .iaload, 1, 0, 0), (74, .aload_n 0, 1, 0, 0), (75, .getfield 8, 3, 9, 0), (78, .iload_n 2, 1, 0, 0), (79, .iload 4, 2, 0, 0), (81, .iadd, 1, 0, 0), (82, .iaload, 1, 0, 0), (83, .invokevirtual 138, 3, 120, 3), (86, .iinc 4 1, 3, 0, 0), (89, .goto (-39), 3, 50, 0), (92, .iload_n 2, 1, 0, 0), (93, .aload_n 0, 1, 0, 0), (94, .getfield 8, 3, 9, 0), (97, .iload_n 1, 1, 0, 0), (98, .bipush 68, 2, 0, 0), (100, .iadd, 1, 0, 0), (101, .iload_n 3, 1, 0, 0), (102, .iadd, 1, 0, 0), (103, .iaload, 1, 0, 0), (104, .iadd, 1, 0, 0), (105, .istore_n 2, 1, 0, 0), (106, .iinc 3 1, 3, 0, 0), (109, .goto (-74), 3, 35, 0), (112, .iconst 0, 1, 0, 0), (113, .istore_n 3, 1, 0, 0), (114, .iconst 0, 1, 0, 0), (115, .istore 4, 2, 0, 0), (117, .iload 4, 2, 0, 0), (119, .aload_n 0, 1, 0, 0), (120, .getfield 8, 3, 9, 0), (123, .iload_n 1, 1, 0, 0), (124, .iconst 0, 1, 0, 0), (125, .iadd, 1, 0, 0), (126, .iaload, 1, 0, 0), (127, .if_icmp .ge 29, 3, 156, 0), (130, .iload_n 3, 1, 0, 0), (131, .aload_n 0, 1, 0, 0), (132, .getfield 30, 3, 9, 12), (135, .iload 4, 2, 0, 0), (137, .iaload, 1, 0, 0), (138, .iload 4, 2, 0, 0), (140, .if_icmp .ne 7, 3, 147, 0), (143, .iconst 1, 1, 0, 0), (144, .goto 4, 3, 148, 0), (147, .iconst 0, 1, 0, 0), (148, .iadd, 1, 0, 0), (149, .istore_n 3, 1, 0, 0), (150, .iinc 4 1, 3, 0, 0), (153, .goto (-36), 3, 117, 0), (156, .iload_n 3, 1, 0, 0), (157, .ireturn, 1, 0, 0)]
def ipc_120 : List (Nat × Instr × Nat × Nat × Nat) := [(0, .aload_n 0, 1, 0, 0), (1, .getfield 30, 3, 9, 12), (4, .iload_n 2, 1, 0, 0), (5, .iaload, 1, 0, 0), (6, .aload_n 0, 1, 0, 0), (7, .getfield 30, 3, 9, 12), (10, .iload_n 3, 1, 0, 0), (11, .iaload, 1, 0, 0), (12, .if_icmp .ge 12, 3, 24, 0), (15, .aload_n 0, 1, 0, 0), (16, .getfield 30, 3, 9, 12), (19, .iload_n 2, 1, 0, 0), (20, .iaload, 1, 0, 0), (21, .goto 9, 3, 30, 0), (24, .aload_n 0, 1, 0, 0), (25, .getfield 30, 3, 9, 12), (28, .iload_n 3, 1, 0, 0), (29, .iaload, 1, 0, 0), (30, .istore 4, 2, 0, 0), (32, .aload_n 0, 1, 0, 0), (33, .getfield 30, 3, 9, 12), (36, .iload_n 2, 1, 0, 0), (37, .iaload, 1, 0, 0), (38, .aload_n 0, 1, 0, 0), (39, .getfield 30, 3, 9, 12), (42, .iload_n 3, 1, 0, 0), (43, .iaload, 1, 0, 0), (44, .if_icmp .ge 12, 3, 56, 0), (47, .aload_n 0, 1, 0, 0), (48, .getfield 30, 3, 9, 12), (51, .iload_n 3, 1, 0, 0), (52, .iaload, 1, 0, 0), (53, .goto 9, 3, 62, 0), (56, .aload_n 0, 1, 0, 0), (57, .getfield 30, 3, 9, 12), (60, .iload_n 2, 1, 0, 0), (61, .iaload, 1, 0, 0), (62, .istore 5, 2, 0, 0), (64, .iconst 0, 1, 0, 0), (65, .istore 6, 2, 0, 0), (67, .iload 6, 2, 0, 0), (69, .aload_n 0, 1, 0, 0), (70, .getfield 8, 3, 9, 0), (73, .iload_n 1, 1, 0, 0), (74, .iconst 0, 1, 0, 0), (75, .iadd, 1, 0, 0), (76, .iaload, 1, 0, 0), (77, .if_icmp .ge 30, 3, 107, 0), (80, .aload_n 0, 1, 0, 0), (81, .getfield 30, 3, 9, 12), (84, .iload 6, 2, 0, 0), (86, .iaload, 1, 0, 0), (87, .iload 5, 2, 0, 0), (89, .if_icmp .ne 12, 3, 101, 0), (92, .aload_n 0, 1, 0, 0), (93, .getfield 30, 3, 9, 12), (96, .iload 6, 2, 0, 0), (98, .iload 4, 2, 0, 0), (100, .iastore, 1, 0, 0), (101, .iinc 6 1, 3, 0, 0), (104, .goto (-37), 3, 67, 0), (107, .return_, 1, 0, 0)]
def ipc_121 : List (Nat × Instr × Nat × Nat × Nat) := [(0, .iload_n 1, 1, 0, 0), (1, .aload_n 0, 1, 0, 0), (2, .getfield 8, 3, 9, 0), (5, .aload_n 0, 1, 0, 0), (6, .invokevirtual 128, 3, 94, 0), (9, .iconst 1, 1, 0, 0), (10, .iadd, 1, 0, 0), (11, .iaload, 1, 0, 0), (12, .invokestatic 141, 3, 95, 2), (15, .ireturn, 1, 0, 0)]
def ipc_122 : List (Nat × Instr × Nat × Nat × Nat) := [(0, .aload_n 0, 1, 0, 0), (1, .iload_n 1, 1, 0, 0), (2, .invokevirtual 145, 3, 121, 1), (5, .ifCond .eq 28, 3, 33, 0), (8, .iload_n 2, 1, 0, 0), (9, .aload_n 0, 1, 0, 0), (10, .getfield 8, 3, 9, 0), (13, .aload_n 0, 1, 0, 0), (14, .invokevirtual 128, 3, 94, 0), (17, .bipush 36, 2, 0, 0), (19, .iadd, 1, 0, 0), (20, .iload_n 1, 1, 0, 0), (21, .iadd, 1, 0, 0), (22, .iaload, 1, 0, 0), (23, .invokestatic 141, 3, 95, 2), (26, .ifCond .eq 7, 3, 33, 0), (29, .iconst 1, 1, 0, 0), (30, .goto 4, 3, 34, 0), (33, .iconst 0, 1, 0, 0), (34, .ireturn, 1, 0, 0)]
def ipc_123 : List (Nat × Instr × Nat × Nat × Nat) := [(0, .aload_n 0, 1, 0, 0), (1, .iload_n 1, 1, 0, 0), (2, .iload_n 2, 1, 0, 0), (3, .invokevirtual 148, 3, 122, 2), (6, .ifCond .eq 24, 3, 30, 0), (9, .iload_n 3, 1, 0, 0), (10, .aload_n 0, 1, 0, 0), (11, .aload_n 0, 1, 0, 0), (12, .invokevirtual 128, 3, 94, 0), (15, .iload_n 1, 1, 0, 0), (16, .iload_n 2, 1, 0, 0), (17, .invokevirtual 121, 3, 113, 3), (20, .invokestatic 141, 3, 95, 2), (23, .ifCond .eq 7, 3, 30, 0), (26, .iconst 1, 1, 0, 0), (27, .goto 4, 3, 31, 0), (30, .iconst 0, 1, 0, 0), (31, .ireturn, 1, 0, 0)]
def ipc_124 : List (Nat × Instr × Nat × Nat × Nat) := [(0, .aload_n 0, 1, 0, 0), (1, .iload_n 1, 1, 0, 0), (2, .invokevirtual 145, 3, 121, 1), (5, .ifCond .eq 20, 3, 25, 0), (8, .aload_n 0, 1, 0, 0), (9, .getfield 8, 3, 9, 0), (12, .aload_n 0, 1, 0, 0), (13, .invokevirtual 128, 3, 94, 0), (16, .bipush 36, 2, 0, 0), (18, .iadd, 1, 0, 0), (19, .iload_n 1, 1, 0, 0), (20, .iadd, 1, 0, 0), (21, .iaload, 1, 0, 0), (22, .goto 4, 3, 26, 0), (25, .iconst (-1), 1, 0, 0), (26, .ireturn, 1, 0, 0)]
def ipc_125 : List (Nat × Instr × Nat × Nat × Nat) := [(0, .aload_n 0, 1, 0, 0), (1, .iload_n 1, 1, 0, 0), (2, .iload_n 2, 1, 0, 0), (3, .invokevirtual 148, 3, 122, 2), (6, .ifCond .eq 16, 3, 22, 0), (9, .aload_n 0, 1, 0, 0), (10, .aload_n 0, 1, 0, 0), (11, .invokevirtual 128, 3, 94, 0), (14, .iload_n 1, 1, 0, 0), (15, .iload_n 2, 1, 0, 0), (16, .invokevirtual 121, 3, 113, 3), (19, .goto 4, 3, 23, 0), (22, .iconst (-1), 1, 0, 0), (23, .ireturn, 1, 0, 0)]
def ipc_126 : List (Nat × Instr × Nat × Nat × Nat) := [(0, .aload_n 0, 1, 0, 0), (1, .iload_n 1, 1, 0, 0), (2, .iload_n 2, 1, 0, 0), (3, .iload_n 3, 1, 0, 0), (4, .invokevirtual 151, 3, 123, 3), (7, .ifCond .eq 17, 3, 24, 0), (10, .aload_n 0, 1, 0, 0), (11, .aload_n 0, 1, 0, 0), (12, .invokevirtual 128, 3, 94, 0), (15, .iload_n 1, 1, 0, 0), (16, .iload_n 2, 1, 0, 0), (17, .iload_n 3, 1, 0, 0), (18, .invokevirtual 65, 3, 105, 4), (21, .goto 4, 3, 25, 0), (24, .iconst (-1), 1, 0, 0), (25, .ireturn, 1, 0, 0)]
def ipc_127 : List (Nat × Instr × Nat × Nat × Nat) := [(0, .iload_n 1, 1, 0, 0), (1, .aload_n 0, 1, 0, 0), (2, .getfield 8, 3, 9, 0), (5, .aload_n 0, 1, 0, 0), (6, .invokevirtual 128, 3, 94, 0), (9, .iconst 0, 1, 0, 0), (10, .iadd, 1, 0, 0), (11, .iaload, 1, 0, 0), (12, .invokestatic 141, 3, 95, 2), (15, .ifCond .eq 19, 3, 34, 0), (18, .aload_n 0, 1, 0, 0), (19, .getfield 8, 3, 9, 0), (22, .aload_n 0, 1, 0, 0), (23, .invokevirtual 128, 3, 94, 0), (26, .iconst 4, 1, 0, 0), (27, .iadd, 1, 0, 0), (28, .iload_n 1, 1, 0, 0), (29, .iadd, 1, 0, 0), (30, .iaload, 1, 0, 0), (31, .goto 4, 3, 35, 0), (34, .iconst (-1), 1, 0, 0), (35, .ireturn, 1, 0, 0)]
def ipc_128 : List (Nat × Instr × Nat × Nat × Nat) := [(0, .aload_n 0, 1, 0, 0), (1, .invokevirtual 128, 3, 94, 0), (4, .istore 7, 2, 0, 0), (6, .aload_n 0, 1, 0, 0), (7, .getfield 8, 3, 9, 0), (10, .iconst 0, 1, 0, 0), (11, .iaload, 1, 0, 0), (12, .istore 8, 2, 0, 0), (14, .aload_n 0, 1, 0, 0), (15, .iload 7, 2, 0, 0), (17, .iload 8, 2, 0, 0), (19, .iconst 1, 1, 0, 0), (20, .iadd, 1, 0, 0), (21, .invokestatic 43, 3, 93, 1), (24, .iload_n 1, 1, 0, 0), (25, .iload_n 2, 1, 0, 0), (26, .iload_n 3, 1, 0, 0), (27, .iload 4, 2, 0, 0), (29, .iload 5, 2, 0, 0), (31, .iload 6, 2, 0, 0), (33, .invokevirtual 155, 3, 108, 8), (36, .istore 9, 2, 0, 0), (38, .sipush 8020, 3, 0, 0), (41, .bipush 6, 2, 0, 0), (43, .iload 8, 2, 0, 0), (45, .imul, 1, 0, 0), (46, .iadd, 1, 0, 0), (47, .istore 10, 2, 0, 0), (49, .aload_n 0, 1, 0, 0), (50, .getfield 8, 3, 9, 0), (53, .iload 10, 2, 0, 0), (55, .iload_n 1, 1, 0, 0), (56, .iastore, 1, 0, 0), (57, .aload_n 0, 1, 0, 0), (58, .getfield 8, 3, 9, 0), (61, .iload 10, 2, 0, 0), (63, .iconst 1, 1, 0, 0), (64, .iadd, 1, 0, 0), (65, .iload_n 2, 1, 0, 0), (66, .iastore, 1, 0, 0), (67, .aload_n 0, 1, 0, 0), (68, .getfield 8, 3, 9, 0), (71, .iload 10, 2, 0, 0), (73, .iconst 2, 1, 0, 0), (74, .iadd, 1, 0, 0), (75, .iload_n 3, 1, 0, 0), (76, .iastore, 1, 0, 0), (77, .aload_n 0, 1, 0, 0), (78, .getfield 8, 3, 9, 0), (81, .iload 10, 2, 0, 0), (83, .iconst 3, 1, 0, 0), (84, .iadd, 1, 0, 0), (85, .iload 4, 2, 0, 0), (87, .iastore, 1, 0, 0), (88, .aload_n 0, 1, 0, 0), (89, .getfield 8, 3, 9, 0), (92, .iload 10, 2, 0, 0), (94, .iconst 4, 1, 0, 0), (95, .iadd, 1, 0, 0), (96, .iload 5, 2, 0, 0), (98, .iastore, 1, 0, 0), (99, .aload_n 0, 1, 0, 0), (100, .getfield 8, 3, 9, 0), (103, .iload 10, 2, 0, 0), (105, .iconst 5, 1, 0, 0), (106, .iadd, 1, 0, 0), (107, .iload 6, 2, 0, 0), (109, .iastore, 1, 0, 0), (110, .aload_n 0, 1, 0, 0), (111, .getfield 8, 3, 9, 0), (114, .iconst 0, 1, 0, 0), (115, .dup2, 1, 0, 0), (116, .iaload, 1, 0, 0), (117, .iconst 1, 1, 0, 0), (118, .iadd, 1, 0, 0), (119, .iastore, 1, 0, 0), (120, .iload 9, 2, 0, 0), (122, .ireturn, 1, 0, 0)]
def ipc_129 : List (Nat × Instr × Nat × Nat × Nat) := [(0, .aload_n 0, 1, 0, 0), (1, .iload_n 1, 1, 0, 0), (2, .iload_n 2, 1, 0, 0), (3, .iload_n 3, 1, 0, 0), (4, .invokevirtual 151, 3, 123, 3), (7, .ifCond .eq 33, 3, 40, 0), (10, .aload_n 0, 1, 0, 0), (11, .iload_n 1, 1, 0, 0), (12, .iload 4, 2, 0, 0), (14, .iload 5, 2, 0, 0), (16, .invokevirtual 151, 3, 123, 3), (19, .ifCond .eq 21, 3, 40, 0), (22, .iload_n 2, 1, 0, 0), (23, .iload 4, 2, 0, 0), (25, .if_icmp .gt 15, 3, 40, 0), (28, .iload_n 2, 1, 0, 0), (29, .iload 4, 2, 0, 0), (31, .if_icmp .ne 11, 3, 42, 0), (34, .iload_n 3, 1, 0, 0), (35, .iload 5, 2, 0, 0), (37, .if_icmp .le 5, 3, 42, 0), (40, .iconst (-1), 1, 0, 0), (41, .ireturn, 1, 0, 0), (42, .iload_n 2, 1, 0, 0), (43, .iload 4, 2, 0, 0), (45, .if_icmp .ne 24, 3, 69, 0), (48, .iconst 1, 1, 0, 0), (49, .aload_n 0, 1, 0, 0), (50, .getfield 8, 3, 9, 0), (53, .aload_n 0, 1, 0, 0), (54, .invokevirtual 128, 3, 94, 0), (57, .bipush 36, 2, 0, 0), (59, .iadd, 1, 0, 0), (60, .iload_n 1, 1, 0, 0), (61, .iadd, 1, 0, 0), (62, .iaload, 1, 0, 0), (63, .iconst 1, 1, 0, 0), (64, .isub, 1, 0, 0), (65, .ishl, 1, 0, 0), (66, .goto 4, 3, 70, 0), (69, .iconst 1, 1, 0, 0), (70, .istore 7, 2, 0, 0), (72, .iload 6, 2, 0, 0), (74, .iload 7, 2, 0, 0), (76, .invokestatic 141, 3, 95, 2), (79, .ifCond .eq 21, 3, 100, 0), (82, .aload_n 0, 1, 0, 0), (83, .aload_n 0, 1, 0, 0), (84, .invokevirtual 128, 3, 94, 0), (87, .iload_n 1, 1, 0, 0), (88, .iload_n 2, 1, 0, 0), (89, .iload_n 3, 1, 0, 0), (90, .iload 4, 2, 0, 0), (92, .iload 5, 2, 0, 0), (94, .invokevirtual 117, 3, 106, 6), (97, .ifCond .ne 5, 3, 102, 0), (100, .iconst (-1), 1, 0, 0), (101, .ireturn, 1, 0, 0), (102, .aload_n 0, 1, 0, 0), (103, .iload_n 1, 1, 0, 0), (104, .iload_n 2, 1, 0, 0), (105, .iload_n 3, 1, 0, 0), (106, .iload 4, 2, 0, 0), (108, .iload 5, 2, 0, 0), (110, .iload 6, 2, 0, 0), (112, .invokevirtual 159, 3, 128, 6), (115, .ireturn, 1, 0, 0)]
def ipc_130 : List (Nat × Instr × Nat × Nat × Nat) := [(0, .iconst 0, 1, 0, 0), (1, .istore_n 1, 1, 0, 0), (2, .aload_n 0, 1, 0, 0), (3, .invokevirtual 163, 3, 112, 0), (6, .aload_n 0, 1, 0, 0), (7, .aload_n 0, 1, 0, 0), (8, .invokevirtual 128, 3, 94, 0), (11, .invokevirtual 166, 3, 114, 1), (14, .ifCond .eq 9, 3, 23, 0), (17, .iinc 1 1, 3, 0, 0), (20, .goto (-14), 3, 6, 0), (23, .iload_n 1, 1, 0, 0), (24, .ireturn, 1, 0, 0)]
def ipc_131 : List (Nat × Instr × Nat × Nat × Nat) := [(0, .aload_n 0, 1, 0, 0), (1, .invokevirtual 163, 3, 112, 0), (4, .iload_n 1, 1, 0, 0), (5, .ifCond .lt 7, 3, 12, 0), (8, .iconst 1, 1, 0, 0), (9, .goto 4, 3, 13, 0), (12, .iconst 0, 1, 0, 0), (13, .istore_n 2, 1, 0, 0), (14, .iconst 0, 1, 0, 0), (15, .istore_n 3, 1, 0, 0), (16, .iload_n 3, 1, 0, 0), (17, .iload_n 1, 1, 0, 0), (18, .if_icmp .gt 22, 3, 40, 0), (21, .iload_n 2, 1, 0, 0), (22, .ifCond .eq 18, 3, 40, 0), (25, .aload_n 0, 1, 0, 0), (26, .aload_n 0, 1, 0, 0), (27, .invokevirtual 128, 3, 94, 0), (30, .invokevirtual 166, 3, 114, 1), (33, .istore_n 2, 1, 0, 0), (34, .iinc 3 1, 3, 0, 0), (37, .goto (-21), 3, 16, 0), (40, .iload_n 2, 1, 0, 0), (41, .ireturn, 1, 0, 0)]
def ipc_132 : List (Nat × Instr × Nat × Nat × Nat) := [(0, .aload_n 0, 1, 0, 0), (1, .iload_n 1, 1, 0, 0), (2, .invokevirtual 169, 3, 131, 1), (5, .ifCond .eq 34, 3, 39, 0), (8, .aload_n 0, 1, 0, 0), (9, .aload_n 0, 1, 0, 0), (10, .getfield 94, 3, 9, 6), (13, .aload_n 0, 1, 0, 0), (14, .getfield 98, 3, 9, 7), (17, .aload_n 0, 1, 0, 0), (18, .getfield 101, 3, 9, 8), (21, .aload_n 0, 1, 0, 0), (22, .getfield 104, 3, 9, 9), (25, .aload_n 0, 1, 0, 0), (26, .getfield 107, 3, 9, 10), (29, .aload_n 0, 1, 0, 0), (30, .getfield 110, 3, 9, 11), (33, .invokevirtual 159, 3, 128, 6), (36, .goto 4, 3, 40, 0), (39, .iconst (-1), 1, 0, 0), (40, .ireturn, 1, 0, 0)]
def ipc_133 : List (Nat × Instr × Nat × Nat × Nat) := [(0, .iload_n 2, 1, 0, 0), (1, .bipush 6, 2, 0, 0), (3, .invokestatic 141, 3, 95, 2), (6, .ifCond .eq 11, 3, 17, 0), (9, .aload_n 0, 1, 0, 0), (10, .iload_n 1, 1, 0, 0), (11, .invokevirtual 169, 3, 131, 1), (14, .ifCond .ne 5, 3, 19, 0), (17, .iconst (-1), 1, 0, 0), (18, .ireturn, 1, 0, 0), (19, .iload_n 2, 1, 0, 0), (20, .tableswitch 61 0 4 #[36, 41, 46, 51, 56], 36, 0, 0), (56, .aload_n 0, 1, 0, 0), (57, .getfield 94, 3, 9, 6), (60, .ireturn, 1, 0, 0), (61, .aload_n 0, 1, 0, 0), (62, .getfield 98, 3, 9, 7), (65, .ireturn, 1, 0, 0), (66, .aload_n 0, 1, 0, 0), (67, .getfield 101, 3, 9, 8), (70, .ireturn, 1, 0, 0), (71, .aload_n 0, 1, 0, 0), (72, .getfield 104, 3, 9, 9), (75, .ireturn, 1, 0, 0), (76, .aload_n 0, 1, 0, 0), (77, .getfield 107, 3, 9, 10), (80, .ireturn, 1, 0, 0), (81, .aload_n 0, 1, 0, 0), (82, .getfield 110, 3, 9, 11), (85, .ireturn, 1, 0, 0)]
def ipc_134 : List (Nat × Instr × Nat × Nat × Nat) := [(0, .aload_n 0, 1, 0, 0), (1, .getfield 8, 3, 9, 0), (4, .iconst 0, 1, 0, 0), (5, .iaload, 1, 0, 0), (6, .ifCond .ne 5, 3, 11, 0), (9, .iconst (-1), 1, 0, 0), (10, .ireturn, 1, 0, 0), (11, .aload_n 0, 1, 0, 0), (12, .getfield 8, 3, 9, 0), (15, .iconst 0, 1, 0, 0), (16, .dup2, 1, 0, 0), (17, .iaload, 1, 0, 0), (18, .iconst 1, 1, 0, 0), (19, .isub, 1, 0, 0), (20, .iastore, 1, 0, 0), (21, .aload_n 0, 1, 0, 0), (22, .getfield 8, 3, 9, 0), (25, .iconst 0, 1, 0, 0), (26, .iaload, 1, 0, 0), (27, .ireturn, 1, 0, 0)]
def ipc_135 : List (Nat × Instr × Nat × Nat × Nat) := [(0, .iload_n 1, 1, 0, 0), (1, .aload_n 0, 1, 0, 0), (2, .getfield 8, 3, 9, 0), (5, .iconst 0, 1, 0, 0), (6, .iaload, 1, 0, 0), (7, .invokestatic 141, 3, 95, 2), (10, .ifCond .eq 30, 3, 40, 0), (13, .iload_n 2, 1, 0, 0), (14, .bipush 6, 2, 0, 0), (16, .invokestatic 141, 3, 95, 2), (19, .ifCond .eq 21, 3, 40, 0), (22, .aload_n 0, 1, 0, 0), (23, .getfield 8, 3, 9, 0), (26, .sipush 8020, 3, 0, 0), (29, .bipush 6, 2, 0, 0), (31, .iload_n 1, 1, 0, 0), (32, .imul, 1, 0, 0), (33, .iadd, 1, 0, 0), (34, .iload_n 2, 1, 0, 0), (35, .iadd, 1, 0, 0), (36, .iaload, 1, 0, 0), (37, .goto 4, 3, 41, 0), (40, .iconst (-1), 1, 0, 0), (41, .ireturn, 1, 0, 0)]
def ipc_136 : List (Nat × Instr × Nat × Nat × Nat) := [(0, .aload_n 0, 1, 0, 0), (1, .iload_n 2, 1, 0, 0), (2, .invokevirtual 69, 3, 107, 1), (5, .iconst 0, 1, 0, 0), (6, .istore_n 3, 1, 0, 0), (7, .iload_n 3, 1, 0, 0), (8, .aload_n 0, 1, 0, 0), (9, .getfield 8, 3, 9, 0), (12, .iload_n 1, 1, 0, 0), (13, .iconst 0, 1, 0, 0), (14, .iadd, 1, 0, 0), (15, .iaload, 1, 0, 0), (16, .if_icmp .ge 16, 3, 32, 0), (19, .aload_n 0, 1, 0, 0), (20, .getfield 30, 3, 9, 12), (23, .iload_n 3, 1, 0, 0), (24, .iconst (-1), 1, 0, 0), (25, .iastore, 1, 0, 0), (26, .iinc 3 1, 3, 0, 0), (29, .goto (-22), 3, 7, 0), (32, .iconst 0, 1, 0, 0), (33, .istore_n 3, 1, 0, 0), (34, .iload_n 1, 1, 0, 0), (35, .sipush 132, 3, 0, 0), (38, .iadd, 1, 0, 0), (39, .istore 4, 2, 0, 0), (41, .iconst 0, 1, 0, 0), (42, .istore 5, 2, 0, 0), (44, .iload 5, 2, 0, 0), (46, .aload_n 0, 1, 0, 0), (47, .getfield 8, 3, 9, 0), (50, .iload_n 1, 1, 0, 0), (51, .iconst 1, 1, 0, 0), (52, .iadd, 1, 0, 0), (53, .iaload, 1, 0, 0), (54, .if_icmp .ge 211, 3, 265, 0), (57, .iconst 0, 1, 0, 0), (58, .istore 6, 2, 0, 0), (60, .iconst 0, 1, 0, 0), (61, .istore 7, 2, 0, 0), (63, .iload 7, 2, 0, 0), (65, .aload_n 0, 1, 0, 0), (66, .getfield 8, 3, 9, 0), (69, .iload_n 1, 1, 0, 0), (70, .bipush 36, 2, 0, 0), (72, .iadd, 1, 0, 0), (73, .iload 5, 2, 0, 0), (75, .iadd, 1, 0, 0), (76, .iaload, 1, 0, 0), (77, .if_icmp .ge 182, 3, 259, 0), (80, .iconst 0, 1, 0, 0), (81, .istore 8, 2, 0, 0), (83, .aload_n 0, 1, 0, 0), (84, .getfield 8, 3, 9, 0), (87, .iload_n 1, 1, 0, 0), (88, .bipush 68, 2, 0, 0), (90, .iadd, 1, 0, 0), (91, .iload_n 3, 1, 0, 0), (92, .iadd, 1, 0, 0), (93, .iaload, 1, 0, 0), (94, .istore 9, 2, 0, 0), (96, .iconst 0, 1, 0, 0), (97, .istore 10, 2, 0, 0), (99, .iload 10, 2, 0, 0), (101, .iload 9, 2, 0, 0), (103, .if_icmp .ge 140, 3, 243, 0), (106, .aload_n 0, 1, 0, 0), (107, .getfield 8, 3, 9, 0), (110, .iload 4, 2, 0, 0), (112, .iload 10, 2, 0, 0), (114, .iadd, 1, 0, 0), (115, .iaload, 1, 0, 0), (116, .istore 11, 2, 0, 0), (118, .aload_n 0, 1, 0, 0), (119, .getfield 8, 3, 9, 0), (122, .iload_n 1, 1, 0, 0), (123, .iconst 4, 1, 0, 0), (124, .iadd, 1, 0, 0), (125, .iload 11, 2, 0, 0), (127, .iadd, 1, 0, 0), (128, .iaload, 1, 0, 0), (129, .ifCond .ne 6, 3, 135, 0), (132, .goto 105, 3, 237, 0), (135, .iload 6, 2, 0, 0), (137, .ifCond .ne 8, 3, 145, 0), (140, .aload_n 0, 1, 0, 0), (141, .iload_n 2, 1, 0, 0), (142, .invokevirtual 72, 3, 100, 1), (145, .iload 8, 2, 0, 0), (147, .ifCond .ne 8, 3, 155, 0), (150, .aload_n 0, 1, 0, 0), (151, .iload_n 2, 1, 0, 0), (152, .invokevirtual 47, 3, 99, 1), (155, .iconst 1, 1, 0, 0), (156, .istore 6, 2, 0, 0), (158, .iconst 1, 1, 0, 0), (159, .istore 8, 2, 0, 0), (161, .aload_n 0, 1, 0, 0), (162, .getfield 30, 3, 9, 12), (165, .iload 11, 2, 0, 0), (167, .iaload, 1, 0, 0), (168, .ifCond .ge 57, 3, 225, 0), (171, .aload_n 0, 1, 0, 0), (172, .getfield 30, 3, 9, 12), (175, .iload 11, 2, 0, 0), (177, .aload_n 0, 1, 0, 0), (178, .getfield 8, 3, 9, 0), (181, .iload_n 2, 1, 0, 0), (182, .iconst 0, 1, 0, 0), (183, .iadd, 1, 0, 0), (184, .iaload, 1, 0, 0), (185, .iastore, 1, 0, 0), (186, .aload_n 0, 1, 0, 0), (187, .getfield 8, 3, 9, 0), (190, .iload_n 2, 1, 0, 0), (191, .iconst 4, 1, 0, 0), (192, .iadd, 1, 0, 0), (193, .aload_n 0, 1, 0, 0), (194, .getfield 30, 3, 9, 12), (197, .iload 11, 2, 0, 0), (199, .iaload, 1, 0, 0), (200, .iadd, 1, 0, 0), (201, .aload_n 0, 1, 0, 0), (202, .getfield 8, 3, 9, 0), (205, .iload_n 1, 1, 0, 0), (206, .iconst 4, 1, 0, 0), (207, .iadd, 1, 0, 0), (208, .iload 11, 2, 0, 0), (210, .iadd, 1, 0, 0), (211, .iaload, 1, 0, 0), (212, .iastore, 1, 0, 0), (213, .aload_n 0, 1, 0, 0), (214, .getfield 8, 3, 9, 0), (217, .iload_n 2, 1, 0, 0), (218, .iconst 0, 1, 0, 0), (219, .iadd, 1, 0, 0), (220, .dup2, 1, 0, 0), (221, .iaload, 1, 0, 0), (222, .iconst 1, 1, 0, 0), (223, .iadd, 1, 0, 0), (224, .iastore, 1, 0, 0), (225, .aload_n 0, 1, 0, 0), (226, .iload_n 2, 1, 0, 0), (227, .aload_n 0, 1, 0, 0), (228, .getfield 30, 3, 9, 12), (231, .iload 11, 2, 0, 0), (233, .iaload, 1, 0, 0), (234, .invokevirtual 54, 3, 101, 2), (237, .iinc 10 1, 3, 0, 0), (240, .goto (-141), 3, 99, 0), (243, .iload 4, 2, 0, 0), (245, .iload 9, 2, 0, 0), (247, .iadd, 1, 0, 0), (248, .istore 4, 2, 0, 0), (250, .iinc 3 1, 3, 0, 0), (253, .iinc 7 1, 3, 0, 0), (256, .goto (-193), 3, 63, 0), (259, .iinc 5 1, 3, 0, 0), (262, .goto (-218), 3, 44, 0), (265, .return_, 1, 0, 0)]
def ipc_137 : List (Nat × Instr × Nat × Nat × Nat) := [(0, .iconst 0, 1, 0, 0), (1, .istore_n 2, 1, 0, 0), (2, .iload_n 2, 1, 0, 0), (3, .aload_n 0, 1, 0, 0), (4, .getfield 8, 3, 9, 0), (7, .iload_n 1, 1, 0, 0), (8, .iconst 1, 1, 0, 0), (9, .iadd, 1, 0, 0), (10, .iaload, 1, 0, 0), (11, .if_icmp .ge 16, 3, 27, 0), (14, .aload_n 0, 1, 0, 0), (15, .getfield 33, 3, 9, 13), (18, .iload_n 2, 1, 0, 0), (19, .iload_n 2, 1, 0, 0), (20, .iastore, 1, 0, 0), (21, .iinc 2 1, 3, 0, 0), (24, .goto (-22), 3, 2, 0), (27, .iconst 0, 1, 0, 0), (28, .istore_n 2, 1, 0, 0), (29, .iload_n 2, 1, 0, 0), (30, .aload_n 0, 1, 0, 0), (31, .getfield 8, 3, 9, 0), (34, .iload_n 1, 1, 0, 0), (35, .iconst 0, 1, 0, 0), (36, .iadd, 1, 0, 0), (37, .iaload, 1, 0, 0), (38, .if_icmp .ge 173, 3, 211, 0), (41, .iconst (-1), 1, 0, 0), (42, .istore_n 3, 1, 0, 0), (43, .iconst 0, 1, 0, 0), (44, .istore 4, 2, 0, 0), (46, .iload_n 1, 1, 0, 0), (47, .sipush 132, 3, 0, 0), (50, .iadd, 1, 0, 0), (51, .istore 5, 2, 0, 0), (53, .iconst 0, 1, 0, 0), (54, .istore 6, 2, 0, 0), (56, .iload 6, 2, 0, 0), (58, .aload_n 0, 1, 0, 0), (59, .getfield 8, 3, 9, 0), (62, .iload_n 1, 1, 0, 0), (63, .iconst 1, 1, 0, 0), (64, .iadd, 1, 0, 0), (65, .iaload, 1, 0, 0), (66, .if_icmp .ge 139, 3, 205, 0), (69, .iconst 0, 1, 0, 0), (70, .istore 7, 2, 0, 0), (72, .iconst 0, 1, 0, 0), (73, .istore 8, 2, 0, 0), (75, .iload 8, 2, 0, 0), (77, .aload_n 0, 1, 0, 0), (78, .getfield 8, 3, 9, 0), (81, .iload_n 1, 1, 0, 0), (82, .bipush 36, 2, 0, 0), (84, .iadd, 1, 0, 0), (85, .iload 6, 2, 0, 0), (87, .iadd, 1, 0, 0), (88, .iaload, 1, 0, 0), (89, .if_icmp .ge 81, 3, 170, 0), (92, .iconst 0, 1, 0, 0), (93, .istore 9, 2, 0, 0), (95, .iload 9, 2, 0, 0), (97, .aload_n 0, 1, 0, 0), (98, .getfield 8, 3, 9, 0), (101, .iload_n 1, 1, 0, 0), (102, .bipush 68, 2, 0, 0), (104, .iadd, 1, 0, 0), (105, .iload 4, 2, 0, 0), (107, .iadd, 1, 0, 0), (108, .iaload, 1, 0, 0), (109, .if_icmp .ge 35, 3, 144, 0), (112, .iload 7, 2, 0, 0), (114, .ifCond .ne 17, 3, 131, 0), (117, .aload_n 0, 1, 0, 0), (118, .getfield 8, 3, 9, 0), (121, .iload 5, 2, 0, 0), (123, .iload 9, 2, 0, 0), (125, .iadd, 1, 0, 0), (126, .iaload, 1, 0, 0), (127, .iload_n 2, 1, 0, 0), (128, .if_icmp .ne 7, 3, 135, 0), (131, .iconst 1, 1, 0, 0), (132, .goto 4, 3, 136, 0), (135, .iconst 0, 1, 0, 0), (136, .istore 7, 2, 0, 0), (138, .iinc 9 1, 3, 0, 0), (141, .goto (-46), 3, 95, 0), (144, .iload 5, 2, 0, 0), (146, .aload_n 0, 1, 0, 0), (147, .getfield 8, 3, 9, 0), (150, .iload_n 1, 1, 0, 0), (151, .bipush 68, 2, 0, 0), (153, .iadd, 1, 0, 0), (154, .iload 4, 2, 0, 0), (156, .iadd, 1, 0, 0), (157, .iaload, 1, 0, 0), (158, .iadd, 1, 0, 0), (159, .istore 5, 2, 0, 0), (161, .iinc 4 1, 3, 0, 0), (164, .iinc 8 1, 3, 0, 0), (167, .goto (-92), 3, 75, 0), (170, .iload 7, 2, 0, 0), (172, .ifCond .eq 15, 3, 187, 0), (175, .iload_n 3, 1, 0, 0), (176, .ifCond .lt 11, 3, 187, 0), (179, .aload_n 0, 1, 0, 0), (180, .iload_n 1, 1, 0, 0), (181, .iload_n 3, 1, 0, 0), (182, .iload 6, 2, 0, 0), (184, .invokevirtual 172, 3, 138, 3), (187, .iload 7, 2, 0, 0), (189, .ifCond .eq 10, 3, 199, 0), (192, .iload_n 3, 1, 0, 0), (193, .ifCond .ge 6, 3, 199, 0), (196, .iload 6, 2, 0, 0), (198, .istore_n 3, 1, 0, 0), (199, .iinc 6 1, 3, 0, 0), (202, .goto (-146), 3, 56, 0), (205, .iinc 2 1, 3, 0, 0), (208, .goto (-179), 3, 29, 0), (211, .return_, 1, 0, 0)]
def ipc_138 : List (Nat × Instr × Nat × Nat × Nat) := [(0, .aload_n 0, 1, 0, 0), (1, .getfield 33, 3, 9, 13), (4, .iload_n 2, 1, 0, 0), (5, .iaload, 1, 0, 0), (6, .aload_n 0, 1, 0, 0), (7, .getfield 33, 3, 9, 13), (10, .iload_n 3, 1, 0, 0), (11, .iaload, 1, 0, 0), (12, .if_icmp .ge 12, 3, 24, 0), (15, .aload_n 0, 1, 0, 0), (16, .getfield 33, 3, 9, 13), (19, .iload_n 2, 1, 0, 0), (20, .iaload, 1, 0, 0), (21, .goto 9, 3, 30, 0), (24, .aload_n 0, 1, 0, 0), (25, .getfield 33, 3, 9, 13), (28, .iload_n 3, 1, 0, 0), (29, .iaload, 1, 0, 0), (30, .istore 4, 2, 0, 0), (32, .aload_n 0, 1, 0, 0), (33, .getfield 33, 3, 9, 13), (36, .iload_n 2, 1, 0, 0), (37, .iaload, 1, 0, 0), (38, .aload_n 0, 1, 0, 0), (39, .getfield 33, 3, 9, 13), (42, .iload_n 3, 1, 0, 0), (43, .iaload, 1, 0, 0), (44, .if_icmp .ge 12, 3, 56, 0), (47, .aload_n 0, 1, 0, 0), (48, .getfield 33, 3, 9, 13), (51, .iload_n 3, 1, 0, 0), (52, .iaload, 1, 0, 0), (53, .goto 9, 3, 62, 0), (56, .aload_n 0, 1, 0, 0), (57, .getfield 33, 3, 9, 13), (60, .iload_n 2, 1, 0, 0), (61, .iaload, 1, 0, 0), (62, .istore 5, 2, 0, 0), (64, .iconst 0, 1, 0, 0), (65, .istore 6, 2, 0, 0), (67, .iload 6, 2, 0, 0), (69, .aload_n 0, 1, 0, 0), (70, .getfield 8, 3, 9, 0), (73, .iload_n 1, 1, 0, 0), (74, .iconst 1, 1, 0, 0), (75, .iadd, 1, 0, 0), (76, .iaload, 1, 0, 0), (77, .if_icmp .ge 30, 3, 107, 0), (80, .aload_n 0, 1, 0, 0), (81, .getfield 33, 3, 9, 13), (84, .iload 6, 2, 0, 0), (86, .iaload, 1, 0, 0), (87, .iload 5, 2, 0, 0), (89, .if_icmp .ne 12, 3, 101, 0), (92, .aload_n 0, 1, 0, 0), (93, .getfield 33, 3, 9, 13), (96, .iload 6, 2, 0, 0), (98, .iload 4, 2, 0, 0), (100, .iastore, 1, 0, 0), (101, .iinc 6 1, 3, 0, 0), (104, .goto (-37), 3, 67, 0), (107, .return_, 1, 0, 0)]
def ipc_139 : List (Nat × Instr × Nat × Nat × Nat) := [(0, .aload_n 0, 1, 0, 0), (1, .iload_n 2, 1, 0, 0), (2, .invokevirtual 69, 3, 107, 1), (5, .iconst 0, 1, 0, 0), (6, .istore 4, 2, 0, 0), (8, .iload 4, 2, 0, 0), (10, .aload_n 0, 1, 0, 0), (11, .getfield 8, 3, 9, 0), (14, .iload_n 1, 1, 0, 0), (15, .iconst 0, 1, 0, 0), (16, .iadd, 1, 0, 0), (17, .iaload, 1, 0, 0), (18, .if_icmp .ge 17, 3, 35, 0), (21, .aload_n 0, 1, 0, 0), (22, .getfield 30, 3, 9, 12), (25, .iload 4, 2, 0, 0), (27, .iconst (-1), 1, 0, 0), (28, .iastore, 1, 0, 0), (29, .iinc 4 1, 3, 0, 0), (32, .goto (-24), 3, 8, 0), (35, .iconst 0, 1, 0, 0), (36, .istore 4, 2, 0, 0), (38, .iload_n 1, 1, 0, 0), (39, .sipush 132, 3, 0, 0), (42, .iadd, 1, 0, 0), (43, .istore 5, 2, 0, 0), (45, .iconst 0, 1, 0, 0), (46, .istore 6, 2, 0, 0), (48, .iload 6, 2, 0, 0), (50, .aload_n 0, 1, 0, 0), (51, .getfield 8, 3, 9, 0), (54, .iload_n 1, 1, 0, 0), (55, .iconst 1, 1, 0, 0), (56, .iadd, 1, 0, 0), (57, .iaload, 1, 0, 0), (58, .if_icmp .ge 206, 3, 264, 0), (61, .aload_n 0, 1, 0, 0), (62, .getfield 33, 3, 9, 13), (65, .iload 6, 2, 0, 0), (67, .iaload, 1, 0, 0), (68, .iload_n 3, 1, 0, 0), (69, .if_icmp .ne 8, 3, 77, 0), (72, .aload_n 0, 1, 0, 0), (73, .iload_n 2, 1, 0, 0), (74, .invokevirtual 72, 3, 100, 1), (77, .iconst 0, 1, 0, 0), (78, .istore 7, 2, 0, 0), (80, .iload 7, 2, 0, 0), (82, .aload_n 0, 1, 0, 0), (83, .getfield 8, 3, 9, 0), (86, .iload_n 1, 1, 0, 0), (87, .bipush 36, 2, 0, 0), (89, .iadd, 1, 0, 0), (90, .iload 6, 2, 0, 0), (92, .iadd, 1, 0, 0), (93, .iaload, 1, 0, 0), (94, .if_icmp .ge 164, 3, 258, 0), (97, .aload_n 0, 1, 0, 0), (98, .getfield 8, 3, 9, 0), (101, .iload_n 1, 1, 0, 0), (102, .bipush 68, 2, 0, 0), (104, .iadd, 1, 0, 0), (105, .iload 4, 2, 0, 0), (107, .iadd, 1, 0, 0), (108, .iaload, 1, 0, 0), (109, .istore 8, 2, 0, 0), (111, .aload_n 0, 1, 0, 0), (112, .getfield 33, 3, 9, 13), (115, .iload 6, 2, 0, 0), (117, .iaload, 1, 0, 0), (118, .iload_n 3, 1, 0, 0), (119, .if_icmp .ne 8, 3, 127, 0), (122, .aload_n 0, 1, 0, 0), (123, .iload_n 2, 1, 0, 0), (124, .invokevirtual 47, 3, 99, 1), (127, .iconst 0, 1, 0, 0), (128, .istore 9, 2, 0, 0), (130, .iload 9, 2, 0, 0), (132, .iload 8, 2, 0, 0), (134, .if_icmp .ge 108, 3, 242, 0), (137, .aload_n 0, 1, 0, 0), (138, .getfield 33, 3, 9, 13), (141, .iload 6, 2, 0, 0), (143, .iaload, 1, 0, 0), (144, .iload_n 3, 1, 0, 0), (145, .if_icmp .ne 97, 3, 242, 0), (148, .aload_n 0, 1, 0, 0), (149, .getfield 8, 3, 9, 0), (152, .iload 5, 2, 0, 0), (154, .iload 9, 2, 0, 0), (156, .iadd, 1, 0, 0), (157, .iaload, 1, 0, 0), (158, .istore 10, 2, 0, 0), (160, .aload_n 0, 1, 0, 0), (161, .getfield 30, 3, 9, 12), (164, .iload 10, 2, 0, 0), (166, .iaload, 1, 0, 0), (167, .ifCond .ge 57, 3, 224, 0), (170, .aload_n 0, 1, 0, 0), (171, .getfield 30, 3, 9, 12), (174, .iload 10, 2, 0, 0), (176, .aload_n 0, 1, 0, 0), (177, .getfield 8, 3, 9, 0), (180, .iload_n 2, 1, 0, 0), (181, .iconst 0, 1, 0, 0), (182, .iadd, 1, 0, 0), (183, .iaload, 1, 0, 0), (184, .iastore, 1, 0, 0), (185, .aload_n 0, 1, 0, 0), (186, .getfield 8, 3, 9, 0), (189, .iload_n 2, 1, 0, 0), (190, .iconst 4, 1, 0, 0), (191, .iadd, 1, 0, 0), (192, .aload_n 0, 1, 0, 0), (193, .getfield 30, 3, 9, 12), (196, .iload 10, 2, 0, 0), (198, .iaload, 1, 0, 0), (199, .iadd, 1, 0, 0), (200, .aload_n 0, 1, 0, 0), (201, .getfield 8, 3, 9, 0), (204, .iload_n 1, 1, 0, 0), (205, .iconst 4, 1, 0, 0), (206, .iadd, 1, 0, 0), (207, .iload 10, 2, 0, 0), (209, .iadd, 1, 0, 0), (210, .iaload, 1, 0, 0), (211, .iastore, 1, 0, 0), (212, .aload_n 0, 1, 0, 0), (213, .getfield 8, 3, 9, 0), (216, .iload_n 2, 1, 0, 0), (217, .iconst 0, 1, 0, 0), (218, .iadd, 1, 0, 0), (219, .dup2, 1, 0, 0), (220, .iaload, 1, 0, 0), (221, .iconst 1, 1, 0, 0), (222, .iadd, 1, 0, 0), (223, .iastore, 1, 0, 0), (224, .aload_n 0, 1, 0, 0), (225, .iload_n 2, 1, 0, 0), (226, .aload_n 0, 1, 0, 0), (227, .getfield 30, 3, 9, 12), (230, .iload 10, 2, 0, 0), (232, .iaload, 1, 0, 0), (233, .invokevirtual 54, 3, 101, 2), (236, .iinc 9 1, 3, 0, 0), (239, .goto (-109), 3, 130, 0), (242, .iload 5, 2, 0, 0), (244, .iload 8, 2, 0, 0), (246, .iadd, 1, 0, 0), (247, .istore 5, 2, 0, 0), (249, .iinc 4 1, 3, 0, 0), (252, .iinc 7 1, 3, 0, 0), (255, .goto (-175), 3, 80, 0), (258, .iinc 6 1, 3, 0, 0), (261, .goto (-213), 3, 48, 0), (264, .return_, 1, 0, 0)]
def ipc_140 : List (Nat × Instr × Nat × Nat × Nat) := [(0, .aload_n 0, 1, 0, 0), (1, .iconst 0, 1, 0, 0), (2, .putfield 175, 3, 9, 15), (5, .iconst 0, 1, 0, 0), (6, .istore_n 2, 1, 0, 0), (7, .iload_n 1, 1, 0, 0), (8, .sipush 132, 3, 0, 0), (11, .iadd, 1, 0, 0), (12, .istore_n 3, 1, 0, 0), (13, .iconst 0, 1, 0, 0), (14, .istore 4, 2, 0, 0), (16, .iload 4, 2, 0, 0), (18, .aload_n 0, 1, 0, 0), (19, .getfield 8, 3, 9, 0), (22, .iload_n 1, 1, 0, 0), (23, .iconst 1, 1, 0, 0), (24, .iadd, 1, 0, 0), (25, .iaload, 1, 0, 0), (26, .if_icmp .ge 125, 3, 151, 0), (29, .aload_n 0, 1, 0, 0), (30, .sipush 255, 3, 0, 0), (33, .invokevirtual 178, 3, 141, 1), (36, .iconst 0, 1, 0, 0), (37, .istore 5, 2, 0, 0), (39, .iload 5, 2, 0, 0), (41, .aload_n 0, 1, 0, 0), (42, .getfield 8, 3, 9, 0), (45, .iload_n 1, 1, 0, 0), (46, .bipush 36, 2, 0, 0), (48, .iadd, 1, 0, 0), (49, .iload 4, 2, 0, 0), (51, .iadd, 1, 0, 0), (52, .iaload, 1, 0, 0), (53, .if_icmp .ge 92, 3, 145, 0), (56, .aload_n 0, 1, 0, 0), (57, .sipush 254, 3, 0, 0), (60, .invokevirtual 178, 3, 141, 1), (63, .iconst 0, 1, 0, 0), (64, .istore 6, 2, 0, 0), (66, .iload 6, 2, 0, 0), (68, .aload_n 0, 1, 0, 0), (69, .getfield 8, 3, 9, 0), (72, .iload_n 1, 1, 0, 0), (73, .bipush 68, 2, 0, 0), (75, .iadd, 1, 0, 0), (76, .iload_n 2, 1, 0, 0), (77, .iadd, 1, 0, 0), (78, .iaload, 1, 0, 0), (79, .if_icmp .ge 43, 3, 122, 0), (82, .aload_n 0, 1, 0, 0), (83, .iconst 4, 1, 0, 0), (84, .aload_n 0, 1, 0, 0), (85, .getfield 8, 3, 9, 0), (88, .iload_n 3, 1, 0, 0), (89, .iload 6, 2, 0, 0), (91, .iadd, 1, 0, 0), (92, .iaload, 1, 0, 0), (93, .imul, 1, 0, 0), (94, .aload_n 0, 1, 0, 0), (95, .getfield 8, 3, 9, 0), (98, .iload_n 1, 1, 0, 0), (99, .iconst 4, 1, 0, 0), (100, .iadd, 1, 0, 0), (101, .aload_n 0, 1, 0, 0), (102, .getfield 8, 3, 9, 0), (105, .iload_n 3, 1, 0, 0), (106, .iload 6, 2, 0, 0), (108, .iadd, 1, 0, 0), (109, .iaload, 1, 0, 0), (110, .iadd, 1, 0, 0), (111, .iaload, 1, 0, 0), (112, .iadd, 1, 0, 0), (113, .invokevirtual 178, 3, 141, 1), (116, .iinc 6 1, 3, 0, 0), (119, .goto (-53), 3, 66, 0), (122, .iload_n 3, 1, 0, 0), (123, .aload_n 0, 1, 0, 0), (124, .getfield 8, 3, 9, 0), (127, .iload_n 1, 1, 0, 0), (128, .bipush 68, 2, 0, 0), (130, .iadd, 1, 0, 0), (131, .iload_n 2, 1, 0, 0), (132, .iadd, 1, 0, 0), (133, .iaload, 1, 0, 0), (134, .iadd, 1, 0, 0), (135, .istore_n 3, 1, 0, 0), (136, .iinc 2 1, 3, 0, 0), (139, .iinc 5 1, 3, 0, 0), (142, .goto (-103), 3, 39, 0), (145, .iinc 4 1, 3, 0, 0), (148, .goto (-132), 3, 16, 0), (151, .return_, 1, 0, 0)]
def ipc_141 : List (Nat × Instr × Nat × Nat × Nat) := [(0, .aload_n 0, 1, 0, 0), (1, .getfield 175, 3, 9, 15), (4, .bipush 72, 2, 0, 0), (6, .if_icmp .ge 14, 3, 20, 0), (9, .aload_n 0, 1, 0, 0), (10, .getfield 36, 3, 9, 14), (13, .aload_n 0, 1, 0, 0), (14, .getfield 175, 3, 9, 15), (17, .iload_n 1, 1, 0, 0), (18, .i2b, 1, 0, 0), (19, .bastore, 1, 0, 0), (20, .aload_n 0, 1, 0, 0), (21, .dup, 1, 0, 0), (22, .getfield 175, 3, 9, 15), (25, .iconst 1, 1, 0, 0), (26, .iadd, 1, 0, 0), (27, .putfield 175, 3, 9, 15), (30, .return_, 1, 0, 0)]
def ipc_142 : List (Nat × Instr × Nat × Nat × Nat) := [(0, .aload_n 0, 1, 0, 0), (1, .getfield 175, 3, 9, 15), (4, .bipush 72, 2, 0, 0), (6, .if_icmp .le 5, 3, 11, 0), (9, .iconst (-1), 1, 0, 0), (10, .ireturn, 1, 0, 0), (11, .bipush 7, 2, 0, 0), (13, .istore_n 1, 1, 0, 0), (14, .iconst 0, 1, 0, 0), (15, .istore_n 2, 1, 0, 0), (16, .iload_n 2, 1, 0, 0), (17, .aload_n 0, 1, 0, 0), (18, .getfield 175, 3, 9, 15), (21, .if_icmp .ge 21, 3, 42, 0), (24, .bipush 31, 2, 0, 0), (26, .iload_n 1, 1, 0, 0), (27, .imul, 1, 0, 0), (28, .aload_n 0, 1, 0, 0), (29, .getfield 36, 3, 9, 14), (32, .iload_n 2, 1, 0, 0), (33, .baload, 1, 0, 0), (34, .iadd, 1, 0, 0), (35, .istore_n 1, 1, 0, 0), (36, .iinc 2 1, 3, 0, 0), (39, .goto (-23), 3, 16, 0), (42, .iload_n 1, 1, 0, 0), (43, .iload_n 1, 1, 0, 0), (44, .bipush 15, 2, 0, 0), (46, .iushr, 1, 0, 0), (47, .ixor, 1, 0, 0), (48, .sipush 32767, 3, 0, 0), (51, .iand, 1, 0, 0), (52, .istore_n 2, 1, 0, 0), (53, .iconst 0, 1, 0, 0), (54, .istore_n 3, 1, 0, 0), (55, .iload_n 3, 1, 0, 0), (56, .sipush 200, 3, 0, 0), (59, .if_icmp .ge 107, 3, 166, 0), (62, .aload_n 0, 1, 0, 0), (63, .getfield 24, 3, 9, 3), (66, .iload_n 2, 1, 0, 0), (67, .iaload, 1, 0, 0), (68, .ifCond .ne 5, 3, 73, 0), (71, .iload_n 2, 1, 0, 0), (72, .ireturn, 1, 0, 0), (73, .aload_n 0, 1, 0, 0), (74, .getfield 24, 3, 9, 3), (77, .iload_n 2, 1, 0, 0), (78, .iaload, 1, 0, 0), (79, .aload_n 0, 1, 0, 0), (80, .getfield 175, 3, 9, 15), (83, .if_icmp .ne 7, 3, 90, 0), (86, .iconst 1, 1, 0, 0), (87, .goto 4, 3, 91, 0), (90, .iconst 0, 1, 0, 0), (91, .istore 4, 2, 0, 0), (93, .iconst 0, 1, 0, 0), (94, .istore 5, 2, 0, 0), (96, .iload 5, 2, 0, 0), (98, .aload_n 0, 1, 0, 0), (99, .getfield 175, 3, 9, 15), (102, .if_icmp .ge 43, 3, 145, 0), (105, .iload 4, 2, 0, 0), (107, .ifCond .eq 38, 3, 145, 0), (110, .aload_n 0, 1, 0, 0), (111, .getfield 19, 3, 9, 2), (114, .bipush 72, 2, 0, 0), (116, .iload_n 2, 1, 0, 0), (117, .imul, 1, 0, 0), (118, .iload 5, 2, 0, 0), (120, .iadd, 1, 0, 0), (121, .baload, 1, 0, 0), (122, .aload_n 0, 1, 0, 0), (123, .getfield 36, 3, 9, 14), (126, .iload 5, 2, 0, 0), (128, .baload, 1, 0, 0), (129, .if_icmp .ne 7, 3, 136, 0), (132, .iconst 1, 1, 0, 0), (133, .goto 4, 3, 137, 0), (136, .iconst 0, 1, 0, 0), (137, .istore 4, 2, 0, 0), (139, .iinc 5 1, 3, 0, 0), (142, .goto (-46), 3, 96, 0), (145, .iload 4, 2, 0, 0), (147, .ifCond .eq 5, 3, 152, 0), (150, .iload_n 2, 1, 0, 0), (151, .ireturn, 1, 0, 0), (152, .iload_n 2, 1, 0, 0), (153, .iconst 1, 1, 0, 0), (154, .iadd, 1, 0, 0), (155, .sipush 32767, 3, 0, 0), (158, .iand, 1, 0, 0), (159, .istore_n 2, 1, 0, 0), (160, .iinc 3 1, 3, 0, 0), (163, .goto (-108), 3, 55, 0), (166, .iconst (-1), 1, 0, 0), (167, .ireturn, 1, 0, 0)]
def ipc_143 : List (Nat × Instr × Nat × Nat × Nat) := [(0, .ldc 181, 2, 40900, 0), (2, .sipush 332, 3, 0, 0), (5, .iload_n 0, 1, 0, 0), (6, .imul, 1, 0, 0), (7, .iadd, 1, 0, 0), (8, .ireturn, 1, 0, 0)]
def ipc_144 : List (Nat × Instr × Nat × Nat × Nat) := [(0, .iload_n 2, 1, 0, 0), (1, .invokestatic 182, 3, 143, 1), (4, .istore_n 3, 1, 0, 0), (5, .aload_n 0, 1, 0, 0), (6, .iload_n 1, 1, 0, 0), (7, .iload_n 3, 1, 0, 0), (8, .invokevirtual 185, 3, 136, 2), (11, .iconst 0, 1, 0, 0), (12, .istore 4, 2, 0, 0), (14, .iconst 0, 1, 0, 0), (15, .istore 5, 2, 0, 0), (17, .iload 5, 2, 0, 0), (19, .aload_n 0, 1, 0, 0), (20, .getfield 8, 3, 9, 0), (23, .iload_n 3, 1, 0, 0), (24, .iconst 1, 1, 0, 0), (25, .iadd, 1, 0, 0), (26, .iaload, 1, 0, 0), (27, .if_icmp .ge 54, 3, 81, 0), (30, .aload_n 0, 1, 0, 0), (31, .iload_n 3, 1, 0, 0), (32, .invokevirtual 188, 3, 137, 1), (35, .aload_n 0, 1, 0, 0), (36, .getfield 33, 3, 9, 13), (39, .iload 5, 2, 0, 0), (41, .iaload, 1, 0, 0), (42, .iload 5, 2, 0, 0), (44, .if_icmp .eq 6, 3, 50, 0), (47, .goto 28, 3, 75, 0), (50, .aload_n 0, 1, 0, 0), (51, .iload_n 3, 1, 0, 0), (52, .iload_n 2, 1, 0, 0), (53, .iconst 1, 1, 0, 0), (54, .iadd, 1, 0, 0), (55, .invokestatic 182, 3, 143, 1), (58, .iload 5, 2, 0, 0), (60, .invokevirtual 191, 3, 139, 3), (63, .iload 4, 2, 0, 0), (65, .aload_n 0, 1, 0, 0), (66, .iload_n 2, 1, 0, 0), (67, .iconst 1, 1, 0, 0), (68, .iadd, 1, 0, 0), (69, .invokevirtual 194, 3, 145, 1), (72, .ixor, 1, 0, 0), (73, .istore 4, 2, 0, 0), (75, .iinc 5 1, 3, 0, 0), (78, .goto (-61), 3, 17, 0), (81, .iload 4, 2, 0, 0), (83, .ireturn, 1, 0, 0)]
def ipc_145 : List (Nat × Instr × Nat × Nat × Nat) := [(0, .iload_n 1, 1, 0, 0), (1, .invokestatic 182, 3, 143, 1), (4, .istore_n 2, 1, 0, 0), (5, .aload_n 0, 1, 0, 0), (6, .iload_n 2, 1, 0, 0), (7, .invokevirtual 197, 3, 140, 1), (10, .aload_n 0, 1, 0, 0), (11, .invokevirtual 200, 3, 142, 0), (14, .istore_n 3, 1, 0, 0), (15, .iload_n 3, 1, 0, 0), (16, .ifCond .lt 19, 3, 35, 0), (19, .aload_n 0, 1, 0, 0), (20, .getfield 24, 3, 9, 3), (23, .iload_n 3, 1, 0, 0), (24, .iaload, 1, 0, 0), (25, .ifCond .le 10, 3, 35, 0), (28, .aload_n 0, 1, 0, 0), (29, .getfield 27, 3, 9, 4), (32, .iload_n 3, 1, 0, 0), (33, .baload, 1, 0, 0), (34, .ireturn, 1, 0, 0), (35, .iconst 0, 1, 0, 0), (36, .istore 4, 2, 0, 0), (38, .aload_n 0, 1, 0, 0), (39, .invokevirtual 163, 3, 112, 0), (42, .aload_n 0, 1, 0, 0), (43, .iload_n 2, 1, 0, 0), (44, .invokevirtual 166, 3, 114, 1), (47, .ifCond .eq 127, 3, 174, 0), (50, .aload_n 0, 1, 0, 0), (51, .getfield 94, 3, 9, 6), (54, .istore 5, 2, 0, 0), (56, .aload_n 0, 1, 0, 0), (57, .getfield 98, 3, 9, 7), (60, .istore 6, 2, 0, 0), (62, .aload_n 0, 1, 0, 0), (63, .getfield 101, 3, 9, 8), (66, .istore 7, 2, 0, 0), (68, .aload_n 0, 1, 0, 0), (69, .getfield 104, 3, 9, 9), (72, .istore 8, 2, 0, 0), (74, .aload_n 0, 1, 0, 0), (75, .getfield 107, 3, 9, 10), (78, .istore 9, 2, 0, 0), (80, .aload_n 0, 1, 0, 0), (81, .getfield 110, 3, 9, 11), (84, .istore 10, 2, 0, 0), (86, .aload_n 0, 1, 0, 0), (87, .iload_n 2, 1, 0, 0), (88, .iload_n 1, 1, 0, 0), (89, .iconst 1, 1, 0, 0), (90, .iadd, 1, 0, 0), (91, .invokestatic 182, 3, 143, 1), (94, .iload 5, 2, 0, 0), (96, .iload 6, 2, 0, 0), (98, .iload 7, 2, 0, 0), (100, .iload 8, 2, 0, 0), (102, .iload 9, 2, 0, 0), (104, .iload 10, 2, 0, 0), (106, .invokevirtual 155, 3, 108, 8), (109, .istore 11, 2, 0, 0), (111, .aload_n 0, 1, 0, 0), (112, .iload_n 1, 1, 0, 0), (113, .iconst 1, 1, 0, 0), (114, .iadd, 1, 0, 0), (115, .invokestatic 182, 3, 143, 1), (118, .iload_n 1, 1, 0, 0), (119, .iconst 2, 1, 0, 0), (120, .iadd, 1, 0, 0), (121, .invokevirtual 203, 3, 144, 2), (124, .istore 12, 2, 0, 0), (126, .iload 4, 2, 0, 0), (128, .iconst 1, 1, 0, 0), (129, .iload 12, 2, 0, 0), (131, .ishl, 1, 0, 0), (132, .ior, 1, 0, 0), (133, .istore 4, 2, 0, 0), (135, .aload_n 0, 1, 0, 0), (136, .iload 5, 2, 0, 0), (138, .putfield 94, 3, 9, 6), (141, .aload_n 0, 1, 0, 0), (142, .iload 6, 2, 0, 0), (144, .putfield 98, 3, 9, 7), (147, .aload_n 0, 1, 0, 0), (148, .iload 7, 2, 0, 0), (150, .putfield 101, 3, 9, 8), (153, .aload_n 0, 1, 0, 0), (154, .iload 8, 2, 0, 0), (156, .putfield 104, 3, 9, 9), (159, .aload_n 0, 1, 0, 0), (160, .iload 9, 2, 0, 0), (162, .putfield 107, 3, 9, 10), (165, .aload_n 0, 1, 0, 0), (166, .iload 10, 2, 0, 0), (168, .putfield 110, 3, 9, 11), (171, .goto (-129), 3, 42, 0), (174, .iconst 0, 1, 0, 0), (175, .istore 5, 2, 0, 0), (177, .iload 4, 2, 0, 0), (179, .iload 5, 2, 0, 0), (181, .ishr, 1, 0, 0), (182, .iconst 1, 1, 0, 0), (183, .iand, 1, 0, 0), (184, .iconst 1, 1, 0, 0), (185, .if_icmp .ne 9, 3, 194, 0), (188, .iinc 5 1, 3, 0, 0), (191, .goto (-14), 3, 177, 0), (194, .aload_n 0, 1, 0, 0), (195, .iload_n 2, 1, 0, 0), (196, .iload 5, 2, 0, 0), (198, .invokevirtual 206, 3, 146, 2), (201, .iload 5, 2, 0, 0), (203, .ireturn, 1, 0, 0)]
def ipc_146 : List (Nat × Instr × Nat × Nat × Nat) := [(0, .aload_n 0, 1, 0, 0), (1, .iload_n 1, 1, 0, 0), (2, .invokevirtual 197, 3, 140, 1), (5, .aload_n 0, 1, 0, 0), (6, .invokevirtual 200, 3, 142, 0), (9, .istore_n 3, 1, 0, 0), (10, .iload_n 3, 1, 0, 0), (11, .ifCond .lt 22, 3, 33, 0), (14, .aload_n 0, 1, 0, 0), (15, .getfield 24, 3, 9, 3), (18, .iload_n 3, 1, 0, 0), (19, .iaload, 1, 0, 0), (20, .ifCond .gt 13, 3, 33, 0), (23, .aload_n 0, 1, 0, 0), (24, .getfield 209, 3, 9, 5), (27, .sipush 30000, 3, 0, 0), (30, .if_icmp .le 4, 3, 34, 0), (33, .return_, 1, 0, 0), (34, .aload_n 0, 1, 0, 0), (35, .getfield 24, 3, 9, 3), (38, .iload_n 3, 1, 0, 0), (39, .aload_n 0, 1, 0, 0), (40, .getfield 175, 3, 9, 15), (43, .iastore, 1, 0, 0), (44, .aload_n 0, 1, 0, 0), (45, .getfield 27, 3, 9, 4), (48, .iload_n 3, 1, 0, 0), (49, .iload_n 2, 1, 0, 0), (50, .i2b, 1, 0, 0), (51, .bastore, 1, 0, 0), (52, .iconst 0, 1, 0, 0), (53, .istore 4, 2, 0, 0), (55, .iload 4, 2, 0, 0), (57, .aload_n 0, 1, 0, 0), (58, .getfield 175, 3, 9, 15), (61, .if_icmp .ge 28, 3, 89, 0), (64, .aload_n 0, 1, 0, 0), (65, .getfield 19, 3, 9, 2), (68, .bipush 72, 2, 0, 0), (70, .iload_n 3, 1, 0, 0), (71, .imul, 1, 0, 0), (72, .iload 4, 2, 0, 0), (74, .iadd, 1, 0, 0), (75, .aload_n 0, 1, 0, 0), (76, .getfield 36, 3, 9, 14), (79, .iload 4, 2, 0, 0), (81, .baload, 1, 0, 0), (82, .bastore, 1, 0, 0), (83, .iinc 4 1, 3, 0, 0), (86, .goto (-31), 3, 55, 0), (89, .aload_n 0, 1, 0, 0), (90, .dup, 1, 0, 0), (91, .getfield 209, 3, 9, 5), (94, .iconst 1, 1, 0, 0), (95, .iadd, 1, 0, 0), (96, .putfield 209, 3, 9, 5), (99, .return_, 1, 0, 0)]
def ipc_147 : List (Nat × Instr × Nat × Nat × Nat) := [(0, .aload_n 0, 1, 0, 0), (1, .aload_n 0, 1, 0, 0), (2, .invokevirtual 128, 3, 94, 0), (5, .invokevirtual 132, 3, 118, 1), (8, .bipush 9, 2, 0, 0), (10, .if_icmp .le 7, 3, 17, 0), (13, .iconst (-1), 1, 0, 0), (14, .goto 12, 3, 26, 0), (17, .aload_n 0, 1, 0, 0), (18, .aload_n 0, 1, 0, 0), (19, .invokevirtual 128, 3, 94, 0), (22, .iconst 0, 1, 0, 0), (23, .invokevirtual 203, 3, 144, 2), (26, .ireturn, 1, 0, 0)]
def ipc_148 : List (Nat × Instr × Nat × Nat × Nat) := [(0, .aload_n 0, 1, 0, 0), (1, .invokevirtual 128, 3, 94, 0), (4, .istore_n 1, 1, 0, 0), (5, .aload_n 0, 1, 0, 0), (6, .iload_n 1, 1, 0, 0), (7, .invokevirtual 132, 3, 118, 1), (10, .bipush 9, 2, 0, 0), (12, .if_icmp .le 5, 3, 17, 0), (15, .iconst (-1), 1, 0, 0), (16, .ireturn, 1, 0, 0), (17, .iconst 0, 1, 0, 0), (18, .istore_n 2, 1, 0, 0), (19, .aload_n 0, 1, 0, 0), (20, .invokevirtual 163, 3, 112, 0), (23, .aload_n 0, 1, 0, 0), (24, .iload_n 1, 1, 0, 0), (25, .invokevirtual 166, 3, 114, 1), (28, .ifCond .eq 115, 3, 143, 0), (31, .aload_n 0, 1, 0, 0), (32, .getfield 94, 3, 9, 6), (35, .istore_n 3, 1, 0, 0), (36, .aload_n 0, 1, 0, 0), (37, .getfield 98, 3, 9, 7), (40, .istore 4, 2, 0, 0), (42, .aload_n 0, 1, 0, 0), (43, .getfield 101, 3, 9, 8), (46, .istore 5, 2, 0, 0), (48, .aload_n 0, 1, 0, 0), (49, .getfield 104, 3, 9, 9), (52, .istore 6, 2, 0, 0), (54, .aload_n 0, 1, 0, 0), (55, .getfield 107, 3, 9, 10), (58, .istore 7, 2, 0, 0), (60, .aload_n 0, 1, 0, 0), (61, .getfield 110, 3, 9, 11), (64, .istore 8, 2, 0, 0), (66, .aload_n 0, 1, 0, 0), (67, .iload_n 1, 1, 0, 0), (68, .iconst 0, 1, 0, 0), (69, .invokestatic 182, 3, 143, 1), (72, .iload_n 3, 1, 0, 0), (73, .iload 4, 2, 0, 0), (75, .iload 5, 2, 0, 0), (77, .iload 6, 2, 0, 0), (79, .iload 7, 2, 0, 0), (81, .iload 8, 2, 0, 0), (83, .invokevirtual 155, 3, 108, 8), (86, .istore 9, 2, 0, 0), (88, .aload_n 0, 1, 0, 0), (89, .iconst 0, 1, 0, 0), (90, .invokestatic 182, 3, 143, 1), (93, .iconst 1, 1, 0, 0), (94, .invokevirtual 203, 3, 144, 2), (97, .ifCond .ne 5, 3, 102, 0), (100, .iload_n 2, 1, 0, 0), (101, .ireturn, 1, 0, 0), (102, .aload_n 0, 1, 0, 0), (103, .iload_n 3, 1, 0, 0), (104, .putfield 94, 3, 9, 6), (107, .aload_n 0, 1, 0, 0), (108, .iload 4, 2, 0, 0), (110, .putfield 98, 3, 9, 7), (113, .aload_n 0, 1, 0, 0), (114, .iload 5, 2, 0, 0), (116, .putfield 101, 3, 9, 8), (119, .aload_n 0, 1, 0, 0), (120, .iload 6, 2, 0, 0), (122, .putfield 104, 3, 9, 9), (125, .aload_n 0, 1, 0, 0), (126, .iload 7, 2, 0, 0), (128, .putfield 107, 3, 9, 10), (131, .aload_n 0, 1, 0, 0), (132, .iload 8, 2, 0, 0), (134, .putfield 110, 3, 9, 11), (137, .iinc 2 1, 3, 0, 0), (140, .goto (-117), 3, 23, 0), (143, .iconst (-1), 1, 0, 0), (144, .ireturn, 1, 0, 0)]
def ipc_149 : List (Nat × Instr × Nat × Nat × Nat) := [(0, .iload_n 1, 1, 0, 0), (1, .iconst 4, 1, 0, 0), (2, .invokestatic 141, 3, 95, 2), (5, .ifCond .ne 5, 3, 10, 0), (8, .iconst 0, 1, 0, 0), (9, .ireturn, 1, 0, 0), (10, .aload_n 0, 1, 0, 0), (11, .getfield 14, 3, 9, 1), (14, .iload_n 1, 1, 0, 0), (15, .iconst 1, 1, 0, 0), (16, .bastore, 1, 0, 0), (17, .iconst 0, 1, 0, 0), (18, .istore_n 2, 1, 0, 0), (19, .iload_n 2, 1, 0, 0), (20, .sipush 8180, 3, 0, 0), (23, .if_icmp .ge 29, 3, 52, 0), (26, .aload_n 0, 1, 0, 0), (27, .getfield 8, 3, 9, 0), (30, .sipush 8180, 3, 0, 0), (33, .iload_n 1, 1, 0, 0), (34, .iconst 1, 1, 0, 0), (35, .iadd, 1, 0, 0), (36, .imul, 1, 0, 0), (37, .iload_n 2, 1, 0, 0), (38, .iadd, 1, 0, 0), (39, .aload_n 0, 1, 0, 0), (40, .getfield 8, 3, 9, 0), (43, .iload_n 2, 1, 0, 0), (44, .iaload, 1, 0, 0), (45, .iastore, 1, 0, 0), (46, .iinc 2 1, 3, 0, 0), (49, .goto (-30), 3, 19, 0), (52, .iconst 1, 1, 0, 0), (53, .ireturn, 1, 0, 0)]
def ipc_150 : List (Nat × Instr × Nat × Nat × Nat) := [(0, .iload_n 1, 1, 0, 0), (1, .iconst 4, 1, 0, 0), (2, .invokestatic 141, 3, 95, 2), (5, .ifCond .eq 12, 3, 17, 0), (8, .aload_n 0, 1, 0, 0), (9, .getfield 14, 3, 9, 1), (12, .iload_n 1, 1, 0, 0), (13, .baload, 1, 0, 0), (14, .ifCond .ne 5, 3, 19, 0), (17, .iconst 0, 1, 0, 0), (18, .ireturn, 1, 0, 0), (19, .iconst 0, 1, 0, 0), (20, .istore_n 2, 1, 0, 0), (21, .iload_n 2, 1, 0, 0), (22, .sipush 8180, 3, 0, 0), (25, .if_icmp .ge 29, 3, 54, 0), (28, .aload_n 0, 1, 0, 0), (29, .getfield 8, 3, 9, 0), (32, .iload_n 2, 1, 0, 0), (33, .aload_n 0, 1, 0, 0), (34, .getfield 8, 3, 9, 0), (37, .sipush 8180, 3, 0, 0), (40, .iload_n 1, 1, 0, 0), (41, .iconst 1, 1, 0, 0), (42, .iadd, 1, 0, 0), (43, .imul, 1, 0, 0), (44, .iload_n 2, 1, 0, 0), (45, .iadd, 1, 0, 0), (46, .iaload, 1, 0, 0), (47, .iastore, 1, 0, 0), (48, .iinc 2 1, 3, 0, 0), (51, .goto (-30), 3, 21, 0), (54, .iconst 1, 1, 0, 0), (55, .ireturn, 1, 0, 0)]
def ipc_151 : List (Nat × Instr × Nat × Nat × Nat) := [(0, .iload_n 0, 1, 0, 0), (1, .iconst (-1), 1, 0, 0), (2, .ixor, 1, 0, 0), (3, .iload_n 0, 1, 0, 0), (4, .iconst 1, 1, 0, 0), (5, .isub, 1, 0, 0), (6, .iand, 1, 0, 0), (7, .istore_n 0, 1, 0, 0), (8, .iload_n 0, 1, 0, 0), (9, .ifCond .gt 8, 3, 17, 0), (12, .iload_n 0, 1, 0, 0), (13, .bipush 32, 2, 0, 0), (15, .iand, 1, 0, 0), (16, .ireturn, 1, 0, 0), (17, .iconst 1, 1, 0, 0), (18, .istore_n 1, 1, 0, 0), (19, .iload_n 0, 1, 0, 0), (20, .ldc_w 264, 3, 65536, 0), (23, .if_icmp .le 11, 3, 34, 0), (26, .iinc 1 16, 3, 0, 0), (29, .iload_n 0, 1, 0, 0), (30, .bipush 16, 2, 0, 0), (32, .iushr, 1, 0, 0), (33, .istore_n 0, 1, 0, 0), (34, .iload_n 0, 1, 0, 0), (35, .sipush 256, 3, 0, 0), (38, .if_icmp .le 11, 3, 49, 0), (41, .iinc 1 8, 3, 0, 0), (44, .iload_n 0, 1, 0, 0), (45, .bipush 8, 2, 0, 0), (47, .iushr, 1, 0, 0), (48, .istore_n 0, 1, 0, 0), (49, .iload_n 0, 1, 0, 0), (50, .bipush 16, 2, 0, 0), (52, .if_icmp .le 10, 3, 62, 0), (55, .iinc 1 4, 3, 0, 0), (58, .iload_n 0, 1, 0, 0), (59, .iconst 4, 1, 0, 0), (60, .iushr, 1, 0, 0), (61, .istore_n 0, 1, 0, 0), (62, .iload_n 0, 1, 0, 0), (63, .iconst 4, 1, 0, 0), (64, .if_icmp .le 10, 3, 74, 0), (67, .iinc 1 2, 3, 0, 0), (70, .iload_n 0, 1, 0, 0), (71, .iconst 2, 1, 0, 0), (72, .iushr, 1, 0, 0), (73, .istore_n 0, 1, 0, 0), (74, .iload_n 1, 1, 0, 0), (75, .iload_n 0, 1, 0, 0), (76, .iconst 1, 1, 0, 0), (77, .iushr, 1, 0, 0), (78, .iadd, 1, 0, 0), (79, .ireturn, 1, 0, 0)]
def ipc_152 : List (Nat × Instr × Nat × Nat × Nat) := [(0, .new 7, 3, 8, 0), (3, .dup, 1, 0, 0), (4, .invokespecial 9, 3, 73, 0), (7, .astore_n 1, 1, 0, 0), (8, .new 10, 3, 9, 0), (11, .dup, 1, 0, 0), (12, .invokespecial 12, 3, 91, 0), (15, .astore_n 2, 1, 0, 0), (16, .iconst 0, 1, 0, 0), (17, .istore_n 3, 1, 0, 0), (18, .iload_n 3, 1, 0, 0), (19, .aload_n 0, 1, 0, 0), (20, .arraylength, 1, 0, 0), (21, .bipush 7, 2, 0, 0), (23, .isub, 1, 0, 0), (24, .if_icmp .gt 524, 3, 548, 0), (27, .aload_n 0, 1, 0, 0), (28, .iload_n 3, 1, 0, 0), (29, .iaload, 1, 0, 0), (30, .bipush 15, 2, 0, 0), (32, .iand, 1, 0, 0), (33, .tableswitch 509 0 15 #[79, 102, 125, 148, 181, 224, 247, 322, 335, 358, 391, 404, 437, 450, 463, 486], 79, 0, 0), (112, .aload_n 1, 1, 0, 0), (113, .aload_n 0, 1, 0, 0), (114, .iload_n 3, 1, 0, 0), (115, .iconst 1, 1, 0, 0), (116, .iadd, 1, 0, 0), (117, .iaload, 1, 0, 0), (118, .invokevirtual 13, 3, 74, 1), (121, .aload_n 2, 1, 0, 0), (122, .aload_n 0, 1, 0, 0), (123, .iload_n 3, 1, 0, 0), (124, .iconst 1, 1, 0, 0), (125, .iadd, 1, 0, 0), (126, .iaload, 1, 0, 0), (127, .invokevirtual 17, 3, 96, 1), (130, .if_icmp .eq 412, 3, 542, 0), (133, .iconst 0, 1, 0, 0), (134, .ireturn, 1, 0, 0), (135, .aload_n 1, 1, 0, 0), (136, .aload_n 0, 1, 0, 0), (137, .iload_n 3, 1, 0, 0), (138, .iconst 1, 1, 0, 0), (139, .iadd, 1, 0, 0), (140, .iaload, 1, 0, 0), (141, .invokevirtual 18, 3, 75, 1), (144, .aload_n 2, 1, 0, 0), (145, .aload_n 0, 1, 0, 0), (146, .iload_n 3, 1, 0, 0), (147, .iconst 1, 1, 0, 0), (148, .iadd, 1, 0, 0), (149, .iaload, 1, 0, 0), (150, .invokevirtual 22, 3, 117, 1), (153, .if_icmp .eq 389, 3, 542, 0), (156, .iconst 0, 1, 0, 0), (157, .ireturn, 1, 0, 0), (158, .aload_n 1, 1, 0, 0), (159, .aload_n 0, 1, 0, 0), (160, .iload_n 3, 1, 0, 0), (161, .iconst 1, 1, 0, 0), (162, .iadd, 1, 0, 0), (163, .iaload, 1, 0, 0), (164, .invokevirtual 23, 3, 76, 1), (167, .aload_n 2, 1, 0, 0), (168, .aload_n 0, 1, 0, 0), (169, .iload_n 3, 1, 0, 0), (170, .iconst 1, 1, 0, 0), (171, .iadd, 1, 0, 0), (172, .iaload, 1, 0, 0), (173, .invokevirtual 26, 3, 124, 1), (176, .if_icmp .eq 366, 3, 542, 0), (179, .iconst 0, 1, 0, 0), (180, .ireturn, 1, 0, 0), (181, .aload_n 1, 1, 0, 0), (182, .aload_n 0, 1, 0, 0), (183, .iload_n 3, 1, 0, 0), (184, .iconst 1, 1, 0, 0), (185, .iadd, 1, 0, 0), (186, .iaload, 1, 0, 0), (187, .aload_n 0, 1, 0, 0), (188, .iload_n 3, 1, 0, 0), (189, .iconst 2, 1, 0, 0), (190, .iadd, 1, 0, 0), (191, .iaload, 1, 0, 0), (192, .invokevirtual 27, 3, 77, 2), (195, .aload_n 2, 1, 0, 0), (196, .aload_n 0, 1, 0, 0), (197, .iload_n 3, 1, 0, 0), (198, .iconst 1, 1, 0, 0), (199, .iadd, 1, 0, 0), (200, .iaload, 1, 0, 0), (201, .aload_n 0, 1, 0, 0), (202, .iload_n 3, 1, 0, 0), (203, .iconst 2, 1, 0, 0), (204, .iadd, 1, 0, 0), (205, .iaload, 1, 0, 0), (206, .invokevirtual 31, 3, 125, 2), (209, .if_icmp .eq 333, 3, 542, 0), (212, .iconst 0, 1, 0, 0), (213, .ireturn, 1, 0, 0), (214, .aload_n 1, 1, 0, 0), (215, .aload_n 0, 1, 0, 0), (216, .iload_n 3, 1, 0, 0), (217, .iconst 1, 1, 0, 0), (218, .iadd, 1, 0, 0), (219, .iaload, 1, 0, 0), (220, .aload_n 0, 1, 0, 0), (221, .iload_n 3, 1, 0, 0), (222, .iconst 2, 1, 0, 0), (223, .iadd, 1, 0, 0), (224, .iaload, 1, 0, 0), (225, .aload_n 0, 1, 0, 0), (226, .iload_n 3, 1, 0, 0), (227, .iconst 3, 1, 0, 0), (228, .iadd, 1, 0, 0), (229, .iaload, 1, 0, 0), (230, .invokevirtual 32, 3, 78, 3), (233, .aload_n 2, 1, 0, 0), (234, .aload_n 0, 1, 0, 0), (235, .iload_n 3, 1, 0, 0), (236, .iconst 1, 1, 0, 0), (237, .iadd, 1, 0, 0), (238, .iaload, 1, 0, 0), (239, .aload_n 0, 1, 0, 0), (240, .iload_n 3, 1, 0, 0), (241, .iconst 2, 1, 0, 0), (242, .iadd, 1, 0, 0), (243, .iaload, 1, 0, 0), (244, .aload_n 0, 1, 0, 0), (245, .iload_n 3, 1, 0, 0), (246, .iconst 3, 1, 0, 0), (247, .iadd, 1, 0, 0), (248, .iaload, 1, 0, 0), (249, .invokevirtual 36, 3, 126, 3), (252, .if_icmp .eq 290, 3, 542, 0), (255, .iconst 0, 1, 0, 0), (256, .ireturn, 1, 0, 0), (257, .aload_n 1, 1, 0, 0), (258, .aload_n 0, 1, 0, 0), (259, .iload_n 3, 1, 0, 0), (260, .iconst 1, 1, 0, 0), (261, .iadd, 1, 0, 0), (262, .iaload, 1, 0, 0), (263, .invokevirtual 37, 3, 79, 1), (266, .aload_n 2, 1, 0, 0), (267, .aload_n 0, 1, 0, 0), (268, .iload_n 3, 1, 0, 0), (269, .iconst 1, 1, 0, 0), (270, .iadd, 1, 0, 0), (271, .iaload, 1, 0, 0), (272, .invokevirtual 40, 3, 127, 1), (275, .if_icmp .eq 267, 3, 542, 0), (278, .iconst 0, 1, 0, 0), (279, .ireturn, 1, 0, 0), (280, .aload_n 1, 1, 0, 0), (281, .aload_n 0, 1, 0, 0), (282, .iload_n 3, 1, 0, 0), (283, .iconst 1, 1, 0, 0), (284, .iadd, 1, 0, 0), (285, .iaload, 1, 0, 0), (286, .aload_n 0, 1, 0, 0), (287, .iload_n 3, 1, 0, 0), (288, .iconst 2, 1, 0, 0), (289, .iadd, 1, 0, 0), (290, .iaload, 1, 0, 0), (291, .aload_n 0, 1, 0, 0), (292, .iload_n 3, 1, 0, 0), (293, .iconst 3, 1, 0, 0), (294, .iadd, 1, 0, 0), (295, .iaload, 1, 0, 0), (296, .aload_n 0, 1, 0, 0), (297, .iload_n 3, 1, 0, 0), (298, .iconst 4, 1, 0, 0), (299, .iadd, 1, 0, 0), (300, .iaload, 1, 0, 0), (301, .aload_n 0, 1, 0, 0), (302, .iload_n 3, 1, 0, 0), (303, .iconst 5, 1, 0, 0), (304, .iadd, 1, 0, 0), (305, .iaload, 1, 0, 0), (306, .aload_n 0, 1, 0, 0), (307, .iload_n 3, 1, 0, 0), (308, .bipush 6, 2, 0, 0), (310, .iadd, 1, 0, 0), (311, .iaload, 1, 0, 0), (312, .invokevirtual 41, 3, 80, 6), (315, .aload_n 2, 1, 0, 0), (316, .aload_n 0, 1, 0, 0), (317, .iload_n 3, 1, 0, 0), (318, .iconst 1, 1, 0, 0), (319, .iadd, 1, 0, 0), (320, .iaload, 1, 0, 0), (321, .aload_n 0, 1, 0, 0), (322, .iload_n 3, 1, 0, 0), (323, .iconst 2, 1, 0, 0), (324, .iadd, 1, 0, 0), (325, .iaload, 1, 0, 0), (326, .aload_n 0, 1, 0, 0), (327, .iload_n 3, 1, 0, 0), (328, .iconst 3, 1, 0, 0), (329, .iadd, 1, 0, 0), (330, .iaload, 1, 0, 0), (331, .aload_n 0, 1, 0, 0), (332, .iload_n 3, 1, 0, 0), (333, .iconst 4, 1, 0, 0), (334, .iadd, 1, 0, 0), (335, .iaload, 1, 0, 0), (336, .aload_n 0, 1, 0, 0), (337, .iload_n 3, 1, 0, 0), (338, .iconst 5, 1, 0, 0), (339, .iadd, 1, 0, 0), (340, .iaload, 1, 0, 0), (341, .aload_n 0, 1, 0, 0), (342, .iload_n 3, 1, 0, 0), (343, .bipush 6, 2, 0, 0), (345, .iadd, 1, 0, 0), (346, .iaload, 1, 0, 0), (347, .invokevirtual 45, 3, 129, 6), (350, .if_icmp .eq 192, 3, 542, 0), (353, .iconst 0, 1, 0, 0), (354, .ireturn, 1, 0, 0), (355, .aload_n 1, 1, 0, 0), (356, .invokevirtual 46, 3, 81, 0), (359, .aload_n 2, 1, 0, 0), (360, .invokevirtual 50, 3, 130, 0), (363, .if_icmp .eq 179, 3, 542, 0), (366, .iconst 0, 1, 0, 0), (367, .ireturn, 1, 0, 0), (368, .aload_n 1, 1, 0, 0), (369, .aload_n 0, 1, 0, 0), (370, .iload_n 3, 1, 0, 0), (371, .iconst 1, 1, 0, 0), (372, .iadd, 1, 0, 0), (373, .iaload, 1, 0, 0), (374, .invokevirtual 51, 3, 82, 1), (377, .aload_n 2, 1, 0, 0), (378, .aload_n 0, 1, 0, 0), (379, .iload_n 3, 1, 0, 0), (380, .iconst 1, 1, 0, 0), (381, .iadd, 1, 0, 0), (382, .iaload, 1, 0, 0), (383, .invokevirtual 54, 3, 132, 1), (386, .if_icmp .eq 156, 3, 542, 0), (389, .iconst 0, 1, 0, 0), (390, .ireturn, 1, 0, 0), (391, .aload_n 1, 1, 0, 0), (392, .aload_n 0, 1, 0, 0), (393, .iload_n 3, 1, 0, 0), (394, .iconst 1, 1, 0, 0), (395, .iadd, 1, 0, 0), (396, .iaload, 1, 0, 0), (397, .aload_n 0, 1, 0, 0), (398, .iload_n 3, 1, 0, 0), (399, .iconst 2, 1, 0, 0), (400, .iadd, 1, 0, 0), (401, .iaload, 1, 0, 0), (402, .invokevirtual 55, 3, 83, 2), (405, .aload_n 2, 1, 0, 0), (406, .aload_n 0, 1, 0, 0), (407, .iload_n 3, 1, 0, 0), (408, .iconst 1, 1, 0, 0), (409, .iadd, 1, 0, 0), (410, .iaload, 1, 0, 0), (411, .aload_n 0, 1, 0, 0), (412, .iload_n 3, 1, 0, 0), (413, .iconst 2, 1, 0, 0), (414, .iadd, 1, 0, 0), (415, .iaload, 1, 0, 0), (416, .invokevirtual 58, 3, 133, 2), (419, .if_icmp .eq 123, 3, 542, 0), (422, .iconst 0, 1, 0, 0), (423, .ireturn, 1, 0, 0), (424, .aload_n 1, 1, 0, 0), (425, .invokevirtual 59, 3, 84, 0), (428, .aload_n 2, 1, 0, 0), (429, .invokevirtual 62, 3, 134, 0), (432, .if_icmp .eq 110, 3, 542, 0), (435, .iconst 0, 1, 0, 0), (436, .ireturn, 1, 0, 0), (437, .aload_n 1, 1, 0, 0), (438, .aload_n 0, 1, 0, 0), (439, .iload_n 3, 1, 0, 0), (440, .iconst 1, 1, 0, 0), (441, .iadd, 1, 0, 0), (442, .iaload, 1, 0, 0), (443, .aload_n 0, 1, 0, 0), (444, .iload_n 3, 1, 0, 0), (445, .iconst 2, 1, 0, 0), (446, .iadd, 1, 0, 0), (447, .iaload, 1, 0, 0), (448, .invokevirtual 63, 3, 85, 2), (451, .aload_n 2, 1, 0, 0), (452, .aload_n 0, 1, 0, 0), (453, .iload_n 3, 1, 0, 0), (454, .iconst 1, 1, 0, 0), (455, .iadd, 1, 0, 0), (456, .iaload, 1, 0, 0), (457, .aload_n 0, 1, 0, 0), (458, .iload_n 3, 1, 0, 0), (459, .iconst 2, 1, 0, 0), (460, .iadd, 1, 0, 0), (461, .iaload, 1, 0, 0), (462, .invokevirtual 66, 3, 135, 2), (465, .if_icmp .eq 77, 3, 542, 0), (468, .iconst 0, 1, 0, 0), (469, .ireturn, 1, 0, 0), (470, .aload_n 1, 1, 0, 0), (471, .invokevirtual 67, 3, 86, 0), (474, .aload_n 2, 1, 0, 0), (475, .invokevirtual 70, 3, 147, 0), (478, .if_icmp .eq 64, 3, 542, 0), (481, .iconst 0, 1, 0, 0), (482, .ireturn, 1, 0, 0), (483, .aload_n 1, 1, 0, 0), (484, .invokevirtual 71, 3, 87, 0), (487, .aload_n 2, 1, 0, 0), (488, .invokevirtual 74, 3, 148, 0), (491, .if_icmp .eq 51, 3, 542, 0), (494, .iconst 0, 1, 0, 0), (495, .ireturn, 1, 0, 0), (496, .aload_n 1, 1, 0, 0), (497, .aload_n 0, 1, 0, 0), (498, .iload_n 3, 1, 0, 0), (499, .iconst 1, 1, 0, 0), (500, .iadd, 1, 0, 0), (501, .iaload, 1, 0, 0), (502, .invokevirtual 75, 3, 89, 1), (505, .aload_n 2, 1, 0, 0), (506, .aload_n 0, 1, 0, 0), (507, .iload_n 3, 1, 0, 0), (508, .iconst 1, 1, 0, 0), (509, .iadd, 1, 0, 0), (510, .iaload, 1, 0, 0), (511, .invokevirtual 78, 3, 149, 1), (514, .if_icmp .eq 28, 3, 542, 0), (517, .iconst 0, 1, 0, 0), (518, .ireturn, 1, 0, 0), (519, .aload_n 1, 1, 0, 0), (520, .aload_n 0, 1, 0, 0), (521, .iload_n 3, 1, 0, 0), (522, .iconst 1, 1, 0, 0), (523, .iadd, 1, 0, 0), (524, .iaload, 1, 0, 0), (525, .invokevirtual 79, 3, 90, 1), (528, .aload_n 2, 1, 0, 0), (529, .aload_n 0, 1, 0, 0), (530, .iload_n 3, 1, 0, 0), (531, .iconst 1, 1, 0, 0), (532, .iadd, 1, 0, 0), (533, .iaload, 1, 0, 0), (534, .invokevirtual 82, 3, 150, 1), (537, .if_icmp .eq 5, 3, 542, 0), (540, .iconst 0, 1, 0, 0), (541, .ireturn, 1, 0, 0), (542, .iinc 3 7, 3, 0, 0), (545, .goto (-527), 3, 18, 0), (548, .iconst 1, 1, 0, 0), (549, .ireturn, 1, 0, 0)]
def ipCodes : List (List (Nat × Instr × Nat × Nat × Nat)) := [ipc_0, ipc_1, ipc_2, ipc_3, ipc_4, ipc_5, ipc_6, ipc_7, ipc_8, ipc_9, ipc_10, ipc_11, ipc_12, ipc_13, ipc_14, ipc_15, ipc_16, ipc_17, ipc_18, ipc_19, ipc_20, ipc_21, ipc_22, ipc_23, ipc_24, ipc_25, ipc_26, ipc_27, ipc_28, ipc_29, ipc_30, ipc_31, ipc_32, ipc_33, ipc_34, ipc_35, ipc_36, ipc_37, ipc_38, ipc_39, ipc_40, ipc_41, ipc_42, ipc_43, ipc_44, ipc_45, ipc_46, ipc_47, ipc_48, ipc_49, ipc_50, ipc_51, ipc_52, ipc_53, ipc_54, ipc_55, ipc_56, ipc_57, ipc_58, ipc_59, ipc_60, ipc_61, ipc_62, ipc_63, ipc_64, ipc_65, ipc_66, ipc_67, ipc_68, ipc_69, ipc_70, ipc_71, ipc_72, ipc_73, ipc_74, ipc_75, ipc_76, ipc_77, ipc_78, ipc_79, ipc_80, ipc_81, ipc_82, ipc_83, ipc_84, ipc_85, ipc_86, ipc_87, ipc_88, ipc_89, ipc_90, ipc_91, ipc_92, ipc_93, ipc_94, ipc_95, ipc_96, ipc_97, ipc_98, ipc_99, ipc_100, ipc_101, ipc_102, ipc_103, ipc_104, ipc_105, ipc_106, ipc_107, ipc_108, ipc_109, ipc_110, ipc_111, ipc_112, ipc_113, ipc_114, ipc_115, ipc_116, ipc_117, ipc_118, ipc_119, ipc_120, ipc_121, ipc_122, ipc_123, ipc_124, ipc_125, ipc_126, ipc_127, ipc_128, ipc_129, ipc_130, ipc_131, ipc_132, ipc_133, ipc_134, ipc_135, ipc_136, ipc_137, ipc_138, ipc_139, ipc_140, ipc_141, ipc_142, ipc_143, ipc_144, ipc_145, ipc_146, ipc_147, ipc_148, ipc_149, ipc_150, ipc_151, ipc_152]
def ipInfos : List (MethodName × ByteArray × Nat × Option FieldType × Nat) := [(yX0_init, cX0_init, 2, none, 0), (yX0_now, cX0_now, 1, some (.object "SproutTable$Position"), 0), (yX0_start, cX0_start, 2, none, 0), (yX0_play, cX0_play, 3, some .int, 0), (yX0_takeBack, cX0_takeBack, 1, some .int, 0), (yX0_replay, cX0_replay, 3, none, 0), (yX1_init, cX1_init, 1, none, 1), (yX1_slot, cX1_slot, 8, some .int, 1), (yX1_find, cX1_find, 7, some .int, 1), (yX1_keep, cX1_keep, 9, none, 1), (yX2_init, cX2_init, 1, none, 2), (yX2_rewind, cX2_rewind, 1, none, 2), (yX2_take, cX2_take, 2, none, 2), (yX2_part, cX2_part, 2, some .int, 2), (yX3_init, cX3_init, 2, none, 3), (yX3_name, cX3_name, 6, none, 3), (yX3_takeFields, cX3_takeFields, 4, none, 3), (yX3_signByKind, cX3_signByKind, 3, none, 3), (yX3_signByFirstSight, cX3_signByFirstSight, 3, some .boolean, 3), (yX3_turnField, cX3_turnField, 3, none, 3), (yX3_rowFields, cX3_rowFields, 5, none, 3), (yX3_rowWalls, cX3_rowWalls, 6, none, 3), (yX3_compareRows, cX3_compareRows, 12, some .int, 3), (yX3_readWall, cX3_readWall, 15, none, 3), (yX3_walk, cX3_walk, 6, none, 3), (yX3_walkWall, cX3_walkWall, 9, none, 3), (yX3_encode, cX3_encode, 4, none, 3), (yX4_init, cX4_init, 2, none, 4), (yX4_take, cX4_take, 3, none, 4), (yX5_init, cX5_init, 1, none, 5), (yX5_read, cX5_read, 4, none, 5), (yX5_note, cX5_note, 3, none, 5), (yX5_pairedInside, cX5_pairedInside, 2, some .boolean, 5), (yX5_nextPart, cX5_nextPart, 6, some .int, 5), (yX5_livesOf, cX5_livesOf, 5, some .int, 5), (yX6_init, cX6_init, 2, none, 6), (yX6_hasField, cX6_hasField, 2, some .boolean, 6), (yX6_hasWall, cX6_hasWall, 3, some .boolean, 6), (yX6_hasCorner, cX6_hasCorner, 4, some .boolean, 6), (yX6_wallsIn, cX6_wallsIn, 2, some .int, 6), (yX6_cornersOn, cX6_cornersOn, 3, some .int, 6), (yX6_size, cX6_size, 2, some .int, 6), (yX6_spot, cX6_spot, 4, some .int, 6), (yX6_canMeet, cX6_canMeet, 3, some .boolean, 6), (yX6_sides, cX6_sides, 2, some .int, 6), (yX6_allows, cX6_allows, 2, some .boolean, 6), (yX6_nextPair, cX6_nextPair, 2, some .boolean, 6), (yX6_nextPartner, cX6_nextPartner, 3, some .boolean, 6), (yX6_find, cX6_find, 6, some .boolean, 6), (yX6_clear, cX6_clear, 1, none, 6), (yX6_addSpot, cX6_addSpot, 2, none, 6), (yX6_start, cX6_start, 3, none, 6), (yX6_takeSpots, cX6_takeSpots, 2, none, 6), (yX6_copy, cX6_copy, 3, none, 6), (yX6_become, cX6_become, 4, none, 6), (yX6_spend, cX6_spend, 2, none, 6), (yX6_putField, cX6_putField, 4, none, 6), (yX6_putRound, cX6_putRound, 9, none, 6), (yX6_wholeRound, cX6_wholeRound, 3, some .int, 6), (yX6_putJoined, cX6_putJoined, 6, none, 6), (yX6_putHalf, cX6_putHalf, 9, none, 6), (yX6_put, cX6_put, 3, none, 6), (yX6_closeWall, cX6_closeWall, 2, none, 6), (yX6_closeField, cX6_closeField, 1, none, 6), (yX6_canMoveFrom, cX6_canMoveFrom, 3, some .boolean, 6), (yX7_init, cX7_init, 2, none, 7), (yX7_worth, cX7_worth, 2, some .int, 7), (yX7_firstToZero, cX7_firstToZero, 7, some .int, 7), (yX7_worthOfDraft, cX7_worthOfDraft, 7, some .int, 7), (yX7_worthOfKey, cX7_worthOfKey, 13, some .int, 7), (yX7_decode, cX7_decode, 7, none, 7), (yX7_decodeCorners, cX7_decodeCorners, 9, none, 7), (yX7_spotOf, cX7_spotOf, 4, some .int, 7), (yX8_init, cX8_init, 1, none, 8), (yX8_begin, cX8_begin, 2, some .boolean, 8), (yX8_count, cX8_count, 3, some .int, 8), (yX8_walls, cX8_walls, 3, some .int, 8), (yX8_corners, cX8_corners, 4, some .int, 8), (yX8_corner, cX8_corner, 5, some .int, 8), (yX8_lives, cX8_lives, 3, some .int, 8), (yX8_join, cX8_join, 7, some .int, 8), (yX8_moves, cX8_moves, 4, some .int, 8), (yX8_move, cX8_move, 2, some .int, 8), (yX8_tell, cX8_tell, 3, some .int, 8), (yX8_undo, cX8_undo, 1, some .int, 8), (yX8_made, cX8_made, 4, some .int, 8), (yX8_nim, cX8_nim, 1, some .int, 8), (yX8_best, cX8_best, 1, some .int, 8), (yX8_canBeSolved, cX8_canBeSolved, 1, some .boolean, 8), (yX8_image, cX8_image, 2, some .boolean, 8), (yX8_again, cX8_again, 2, some .boolean, 8), (yX9_init, cX9_init, 1, none, 9), (yX9_begins, cX9_begins, 4, none, 9), (yX9_rowOf, cX9_rowOf, 1, some .int, 9), (yX9_now, cX9_now, 1, some .int, 9), (yX9_isIn, cX9_isIn, 2, some .boolean, 9), (yX9_begin, cX9_begin, 2, some .boolean, 9), (yX9_wallOf, cX9_wallOf, 5, some .int, 9), (yX9_cornersOf, cX9_cornersOf, 5, some .int, 9), (yX9_addWall, cX9_addWall, 2, none, 9), (yX9_addField, cX9_addField, 2, none, 9), (yX9_addCorner, cX9_addCorner, 3, none, 9), (yX9_copyWall, cX9_copyWall, 6, none, 9), (yX9_copyCorners, cX9_copyCorners, 8, none, 9), (yX9_round, cX9_round, 7, none, 9), (yX9_spotAt, cX9_spotAt, 5, some .int, 9), (yX9_can, cX9_can, 9, some .boolean, 9), (yX9_clear, cX9_clear, 2, none, 9), (yX9_joins, cX9_joins, 16, some .int, 9), (yX9_merges, cX9_merges, 11, none, 9), (yX9_first, cX9_first, 10, none, 9), (yX9_others, cX9_others, 10, none, 9), (yX9_ahead, cX9_ahead, 1, none, 9), (yX9_sizeOf, cX9_sizeOf, 4, some .int, 9), (yX9_next, cX9_next, 2, some .boolean, 9), (yX9_isThere, cX9_isThere, 2, some .boolean, 9), (yX9_steps, cX9_steps, 3, some .boolean, 9), (yX9_count, cX9_count, 4, some .int, 9), (yX9_livesOf, cX9_livesOf, 4, some .int, 9), (yX9_pieces, cX9_pieces, 5, some .int, 9), (yX9_hangs, cX9_hangs, 7, none, 9), (yX9_isField, cX9_isField, 2, some .boolean, 9), (yX9_isWall, cX9_isWall, 3, some .boolean, 9), (yX9_isCorner, cX9_isCorner, 4, some .boolean, 9), (yX9_walls, cX9_walls, 2, some .int, 9), (yX9_corners, cX9_corners, 3, some .int, 9), (yX9_corner, cX9_corner, 4, some .int, 9), (yX9_lives, cX9_lives, 2, some .int, 9), (yX9_does, cX9_does, 11, some .int, 9), (yX9_join, cX9_join, 8, some .int, 9), (yX9_moves, cX9_moves, 2, some .int, 9), (yX9_goesTo, cX9_goesTo, 4, some .boolean, 9), (yX9_move, cX9_move, 2, some .int, 9), (yX9_tell, cX9_tell, 3, some .int, 9), (yX9_undo, cX9_undo, 1, some .int, 9), (yX9_made, cX9_made, 3, some .int, 9), (yX9_reduces, cX9_reduces, 12, none, 9), (yX9_groups, cX9_groups, 10, none, 9), (yX9_together, cX9_together, 7, none, 9), (yX9_takes, cX9_takes, 11, none, 9), (yX9_writes, cX9_writes, 7, none, 9), (yX9_put, cX9_put, 2, none, 9), (yX9_placeOf, cX9_placeOf, 6, some .int, 9), (yX9_workRow, cX9_workRow, 1, some .int, 9), (yX9_worthOf, cX9_worthOf, 6, some .int, 9), (yX9_worthOfOne, cX9_worthOfOne, 13, some .int, 9), (yX9_keeps, cX9_keeps, 5, none, 9), (yX9_nim, cX9_nim, 1, some .int, 9), (yX9_best, cX9_best, 10, some .int, 9), (yX9_image, cX9_image, 3, some .boolean, 9), (yX9_again, cX9_again, 3, some .boolean, 9), (yJ6_numberOfTrailingZeros_0f7a4, cJ6_numberOfTrailingZeros_0f7a4, 2, some .int, 11), (yL_law, code, maxLocals, ret, 10)]
def ipFL : List (Nat × Nat × Nat × Nat) := [(0, 12, 0, 0), (0, 20, 0, 1), (0, 27, 4, 2), (0, 31, 4, 1), (0, 42, 4, 0), (0, 52, 6, 8), (1, 11, 1, 0), (1, 15, 1, 1), (1, 18, 1, 2), (2, 9, 2, 0), (2, 15, 2, 1), (2, 18, 2, 2), (2, 21, 2, 3), (2, 24, 2, 4), (2, 27, 2, 5), (3, 11, 3, 1), (3, 15, 3, 2), (3, 18, 3, 3), (3, 21, 3, 4), (3, 25, 3, 5), (3, 28, 3, 6), (3, 31, 3, 7), (3, 34, 3, 8), (3, 37, 3, 0), (3, 49, 3, 9), (3, 69, 6, 7), (3, 74, 6, 8), (3, 77, 6, 4), (3, 80, 5, 0), (3, 89, 3, 10), (3, 100, 6, 3), (3, 110, 6, 2), (3, 116, 6, 1), (3, 123, 3, 11), (3, 127, 3, 12), (4, 11, 4, 0), (4, 18, 4, 1), (4, 22, 4, 2), (5, 9, 5, 0), (5, 15, 5, 1), (5, 18, 5, 2), (5, 21, 5, 3), (5, 24, 6, 8), (5, 30, 6, 7), (5, 33, 6, 2), (5, 36, 6, 3), (5, 39, 6, 1), (5, 46, 5, 4), (5, 49, 6, 4), (6, 9, 6, 1), (6, 15, 6, 2), (6, 18, 6, 3), (6, 21, 6, 4), (6, 24, 6, 0), (6, 28, 6, 7), (6, 51, 2, 1), (6, 56, 2, 3), (6, 59, 2, 0), (6, 62, 2, 2), (6, 69, 2, 4), (6, 72, 2, 5), (6, 97, 6, 5), (6, 100, 6, 6), (6, 103, 6, 8), (6, 106, 6, 9), (6, 109, 6, 10), (7, 12, 7, 0), (7, 23, 7, 1), (7, 30, 7, 2), (7, 39, 7, 3), (7, 43, 7, 4), (7, 49, 7, 5), (7, 53, 7, 6), (7, 57, 7, 7), (7, 60, 7, 8), (7, 85, 2, 5), (7, 96, 6, 7), (7, 110, 3, 11), (7, 114, 3, 12), (7, 158, 6, 8), (8, 12, 8, 0), (8, 18, 8, 1), (8, 25, 8, 2), (8, 37, 6, 8), (8, 43, 6, 7), (8, 46, 0, 0), (8, 50, 4, 2), (8, 53, 6, 10), (8, 56, 6, 6), (8, 59, 6, 9), (8, 86, 6, 4), (8, 90, 2, 0), (8, 93, 2, 1), (8, 96, 2, 2), (8, 99, 2, 3), (8, 102, 2, 4), (8, 105, 2, 5), (8, 137, 4, 0), (8, 145, 8, 3), (9, 8, 9, 0), (9, 14, 9, 1), (9, 19, 9, 2), (9, 24, 9, 3), (9, 27, 9, 4), (9, 30, 9, 12), (9, 33, 9, 13), (9, 36, 9, 14), (9, 94, 9, 6), (9, 98, 9, 7), (9, 101, 9, 8), (9, 104, 9, 9), (9, 107, 9, 10), (9, 110, 9, 11), (9, 175, 9, 15), (9, 209, 9, 5)]
def ipFLi : List Nat := [150, 152, 77, 76, 73, 119, 469, 470, 471, 40, 43, 46, 49, 52, 55, 421, 422, 423, 424, 425, 426, 427, 428, 420, 429, 113, 118, 105, 398, 430, 103, 100, 97, 432, 434, 72, 75, 78, 397, 399, 400, 401, 116, 112, 99, 102, 96, 402, 106, 95, 98, 101, 104, 94, 111, 45, 51, 42, 48, 54, 58, 108, 110, 121, 123, 125, 484, 485, 486, 487, 488, 489, 490, 491, 492, 56, 115, 431, 433, 120, 194, 195, 196, 117, 114, 151, 79, 124, 109, 122, 107, 41, 44, 47, 50, 53, 57, 74, 197, 682, 683, 684, 685, 686, 694, 695, 696, 688, 689, 690, 691, 692, 693, 697, 687]
def ipVL : List (Nat × Nat × Nat × Nat) := [(0, 34, 51, 1), (0, 38, 54, 2), (0, 46, 12, 1), (0, 55, 2, 1), (0, 56, 3, 1), (1, 26, 7, 3), (3, 41, 16, 2), (3, 45, 17, 1), (3, 53, 19, 2), (3, 56, 20, 1), (3, 59, 24, 1), (3, 62, 18, 0), (3, 66, 26, 0), (3, 85, 32, 1), (3, 92, 21, 3), (3, 96, 22, 4), (3, 103, 23, 3), (3, 106, 39, 1), (3, 113, 41, 1), (3, 119, 25, 4), (4, 25, 12, 1), (5, 42, 31, 2), (6, 32, 36, 1), (6, 36, 39, 1), (6, 40, 37, 2), (6, 44, 40, 2), (6, 48, 41, 1), (6, 65, 38, 3), (6, 75, 44, 1), (6, 79, 42, 3), (6, 83, 43, 2), (6, 86, 47, 1), (6, 90, 11, 0), (6, 94, 46, 1), (6, 112, 49, 0), (6, 115, 50, 1), (6, 119, 61, 1), (6, 122, 62, 0), (6, 125, 63, 0), (6, 134, 52, 1), (6, 138, 56, 2), (6, 142, 55, 1), (6, 145, 59, 2), (6, 149, 60, 3), (6, 153, 57, 4), (6, 157, 58, 2), (6, 160, 64, 1), (7, 65, 53, 1), (7, 69, 68, 1), (7, 73, 11, 0), (7, 77, 46, 1), (7, 81, 44, 1), (7, 89, 54, 2), (7, 93, 30, 1), (7, 99, 33, 1), (7, 102, 34, 2), (7, 106, 15, 2), (7, 117, 69, 3), (7, 121, 8, 2), (7, 125, 70, 3), (7, 134, 9, 3), (7, 138, 49, 0), (7, 141, 71, 2), (7, 145, 72, 2), (7, 148, 61, 1), (7, 152, 62, 0), (7, 155, 63, 0), (7, 161, 50, 1), (8, 29, 2, 1), (8, 33, 1, 0), (8, 62, 36, 1), (8, 66, 39, 1), (8, 70, 37, 2), (8, 74, 40, 2), (8, 78, 38, 3), (8, 82, 42, 3), (8, 108, 45, 1), (8, 112, 3, 1), (8, 116, 11, 0), (8, 120, 46, 1), (8, 123, 44, 1), (8, 126, 48, 2), (8, 130, 13, 1), (8, 133, 4, 0), (8, 141, 88, 0), (8, 149, 66, 1), (8, 155, 67, 2), (8, 161, 28, 1), (8, 165, 5, 1), (9, 39, 92, 1), (9, 47, 99, 1), (9, 50, 98, 2), (9, 54, 101, 2), (9, 58, 103, 5), (9, 62, 97, 2), (9, 65, 105, 4), (9, 69, 107, 1), (9, 72, 100, 1), (9, 75, 102, 3), (9, 79, 109, 9), (9, 83, 110, 9), (9, 86, 104, 4), (9, 90, 111, 7), (9, 113, 116, 1), (9, 117, 106, 6), (9, 121, 113, 3), (9, 125, 115, 1), (9, 128, 94, 0), (9, 132, 118, 1), (9, 135, 119, 1), (9, 138, 120, 3), (9, 145, 121, 1), (9, 148, 122, 2), (9, 151, 123, 3), (9, 155, 108, 8), (9, 159, 128, 6), (9, 163, 112, 0), (9, 166, 114, 1), (9, 169, 131, 1), (9, 172, 138, 3), (9, 178, 141, 1), (9, 185, 136, 2), (9, 188, 137, 1), (9, 191, 139, 3), (9, 194, 145, 1), (9, 197, 140, 1), (9, 200, 142, 0), (9, 203, 144, 2), (9, 206, 146, 2), (10, 13, 74, 1), (10, 17, 96, 1), (10, 18, 75, 1), (10, 22, 117, 1), (10, 23, 76, 1), (10, 26, 124, 1), (10, 27, 77, 2), (10, 31, 125, 2), (10, 32, 78, 3), (10, 36, 126, 3), (10, 37, 79, 1), (10, 40, 127, 1), (10, 41, 80, 6), (10, 45, 129, 6), (10, 46, 81, 0), (10, 50, 130, 0), (10, 51, 82, 1), (10, 54, 132, 1), (10, 55, 83, 2), (10, 58, 133, 2), (10, 59, 84, 0), (10, 62, 134, 0), (10, 63, 85, 2), (10, 66, 135, 2), (10, 67, 86, 0), (10, 70, 147, 0), (10, 71, 87, 0), (10, 74, 148, 0), (10, 75, 89, 1), (10, 78, 149, 1), (10, 79, 90, 1), (10, 82, 150, 1)]
def ipVLi : List Nat := [166, 289, 324, 664, 665, 602, 544, 548, 556, 574, 578, 586, 590, 552, 560, 569, 564, 573, 568, 582, 655, 528, 239, 240, 257, 258, 245, 275, 276, 280, 281, 341, 354, 356, 170, 174, 178, 182, 186, 293, 304, 300, 312, 320, 308, 316, 190, 516, 520, 625, 627, 628, 629, 524, 532, 536, 540, 594, 598, 608, 634, 612, 613, 617, 622, 623, 624, 621, 162, 215, 223, 227, 235, 241, 253, 259, 271, 285, 332, 337, 345, 350, 361, 369, 381, 512, 642, 651, 660, 675, 831, 795, 835, 847, 779, 791, 819, 823, 827, 839, 851, 843, 855, 871, 807, 775, 875, 740, 744, 748, 752, 760, 771, 787, 815, 811, 863, 867, 883, 919, 935, 911, 915, 923, 927, 931, 939, 903, 943, 207, 732, 211, 736, 219, 756, 231, 767, 249, 783, 263, 799, 267, 803, 328, 859, 346, 879, 357, 887, 365, 891, 373, 895, 377, 899, 638, 947, 646, 951, 656, 955]
def ipIL : List (Nat × Nat × Nat × Nat) := [(0, 11, 27, 0), (0, 24, 35, 1), (7, 20, 14, 1), (7, 36, 35, 1), (8, 11, 0, 0), (8, 159, 65, 0), (8, 160, 27, 0), (10, 9, 73, 0), (10, 12, 91, 0)]
def ipILi : List Nat := [29, 90, 416, 481, 23, 387, 650, 15, 668]
def ipNL : List (Nat × Nat × Nat × Nat) := [(4, 17, 10, 0), (7, 11, 29, 0), (7, 29, 6, 0), (7, 64, 10, 0), (8, 24, 10, 0)]
def ipNLi : List Nat := [36, 393, 465, 483, 161]
def ipSL : List (Nat × Nat × Nat × Nat) := [(7, 129, 151, 1), (9, 43, 93, 1), (9, 141, 95, 2), (9, 182, 143, 1)]
def ipSLi : List Nat := [630, 679, 764, 907]
def ipCL : List (Nat × Nat × Nat) := [(0, 9, 4), (0, 18, 6), (4, 9, 2), (7, 9, 5), (7, 18, 3), (7, 27, 1), (7, 34, 6), (7, 47, 2), (8, 9, 0), (8, 22, 2), (8, 150, 7), (8, 16, 4), (10, 7, 8), (10, 10, 9)]
def ipCLi : List Nat := [27, 87, 33, 391, 414, 463, 480, 482, 21, 160, 385, 158, 13, 666]
def ipAL : List (Nat × Nat × Nat) := [(0, 18, 5), (4, 9, 4), (7, 34, 5), (7, 47, 4), (8, 16, 6)]
def ipALi : List Nat := [87, 33, 480, 482, 158]
def ipKL : List (Nat × Nat × Nat) := [(6, 93, 1000000), (7, 76, 1000000), (8, 119, 1000000), (9, 7, 52000), (9, 18, 2359296), (9, 23, 32768), (9, 181, 40900), (11, 264, 65536)]
def ipKLi : List Nat := [355, 626, 336, 672, 673, 674, 910, 633]
def ipKLL : List (Nat × Nat × Nat) := [(1, 22, 31), (1, 24, 11400714819323198485)]
def ipKLLi : List Nat := [606, 607]
def ipOL : List (Nat × Nat) := [(0, 3), (1, 5), (2, 3), (3, 5), (4, 3), (5, 3), (6, 3), (7, 3), (8, 3), (9, 1)]
def ipOLi : List Nat := [26, 468, 39, 419, 32, 396, 93, 390, 18, 671]
def ipXL : List (Nat × Nat) := [(6, 128)]
def ipXLi : List Nat := [297]
end
section
/-! every entry of the code's table decodes so, and its links are words of the tables -/
abbrev ipEnt : Type := Nat × Instr × Nat × Nat × Nat
def ipInfo (mid : Nat) : MethodName × ByteArray × Nat × Option FieldType × Nat := ipInfos.getD mid (yL_law, code, maxLocals, ret, 10)
def ipY (mid : Nat) : MethodName := (ipInfo mid).1
def ipB (mid : Nat) : ByteArray := (ipInfo mid).2.1
def ipM (mid : Nat) : Nat := (ipInfo mid).2.2.1
def ipR (mid : Nat) : Option FieldType := (ipInfo mid).2.2.2.1
def ipO (mid : Nat) : Nat := (ipInfo mid).2.2.2.2
def ipCode (mid : Nat) : List ipEnt := ipCodes.getD mid []
def ipFind : List ipEnt → Nat → Option (Instr × Nat × Nat × Nat)
  | [], _ => none
  | q :: l, pc => if q.1 = pc then some q.2 else ipFind l pc
def ipAt (mid pc : Nat) : Option (Instr × Nat × Nat × Nat) := ipFind (ipCode mid) pc
def ipCNs : List String := [RX0, RX1, RX2, RX3, RX4, RX5, RX6, RX7, RX8, RX9, RL, RJ6]
def ipCN (k : Nat) : String := ipCNs.getD k RL
def ipTs : List (u_T × (Nat → FieldType) × Nat) := [(TX0, tyX0, 2), (TX1, tyX1, 3), (TX2, tyX2, 6), (TX3, tyX3, 13), (TX4, tyX4, 3), (TX5, tyX5, 5), (TX6, tyX6, 11), (TX7, tyX7, 9), (TX8, tyX8, 4), (TX9, tyX9, 16)]
def ipT (ci k : Nat) : String × String × String × Bool := (ipTs.getD ci (TX0, tyX0, 2)).1 k
def ipTy (ci k : Nat) : FieldType := (ipTs.getD ci (TX0, tyX0, 2)).2.1 k
def ipN (ci : Nat) : Nat := (ipTs.getD ci (TX0, tyX0, 2)).2.2
def ipATy (t : Nat) : FieldType := match t with
  | 0 => .int
  | 1 => .long
  | 2 => .byte
  | 3 => .boolean
  | 4 => .object "SproutTable$Move"
  | 5 => .object "SproutTable$Position"
  | _ => .object "SproutTable$Notes"
def ipLk (mid pc : Nat) (i : Instr) (a b : Nat) : Bool := match i with
  | .getfield x => ipFL.contains (ipO mid, x, a, b)
  | .putfield x => ipFL.contains (ipO mid, x, a, b) && (!(ipT a b).2.2.2 || ((ipY mid).name == "<init>" && a == ipO mid))
  | .ldc x => ipKL.contains (ipO mid, x, a)
  | .ldc_w x => ipKL.contains (ipO mid, x, a)
  | .ldc2_w x => ipKLL.contains (ipO mid, x, a)
  | .if_icmp _ off => decide ((pc : Int) + off = (a : Int))
  | .ifCond _ off => decide ((pc : Int) + off = (a : Int))
  | .goto off => decide ((pc : Int) + off = (a : Int))
  | .ifnonnull off => decide ((pc : Int) + off = (a : Int))
  | .invokevirtual x => ipVL.contains (ipO mid, x, a, b)
  | .invokespecial x => if a = 999 then ipOL.contains (ipO mid, x) else ipIL.contains (ipO mid, x, a, b) || ipNL.contains (ipO mid, x, a, b)
  | .invokestatic x => if a = 998 then ipXL.contains (ipO mid, x) else ipSL.contains (ipO mid, x, a, b)
  | .new x => ipCL.contains (ipO mid, x, a)
  | .anewarray x => ipAL.contains (ipO mid, x, a)
  | .newarray t => decide (newarray.typeOf t = ipATy a) && decide (a < 4)
  | _ => true
def ipOKe (mid : Nat) (q : ipEnt) : Bool := decide (decode (ipB mid) q.1 = .ok (q.2.1, q.2.2.1)) && ipLk mid q.1 q.2.1 q.2.2.2.1 q.2.2.2.2
theorem ipAllC (w : Nat) (l : List ipEnt) (f : ipEnt → Bool) (n : Nat) (hn : l.length ≤ w * n) (h : ∀ j, j < n → ((l.drop (w * j)).take w).all f = true) : l.all f = true := by
  rw [List.all_eq_true]
  intro x hx
  obtain ⟨i, hi, rfl⟩ := List.getElem_of_mem hx
  have hw : 0 < w := by
    rcases Nat.eq_zero_or_pos w with rfl | q
    · omega
    · exact q
  have hj : i / w < n := by
    rw [Nat.div_lt_iff_lt_mul hw, Nat.mul_comm]
    omega
  have h1 := List.all_eq_true.mp (h (i / w) hj) l[i]
  apply h1
  rw [List.mem_iff_getElem?]
  refine ⟨i % w, ?_⟩
  have h2 : i % w < w := Nat.mod_lt _ hw
  rw [List.getElem?_take_of_lt h2, List.getElem?_drop, Nat.div_add_mod, List.getElem?_eq_getElem hi]
set_option maxRecDepth 100000 in
theorem ipk_0 : (ipCode 0).all (ipOKe 0) = true := by decide +kernel
set_option maxRecDepth 100000 in
theorem ipk_1 : (ipCode 1).all (ipOKe 1) = true := by decide +kernel
set_option maxRecDepth 100000 in
theorem ipk_2 : (ipCode 2).all (ipOKe 2) = true := by decide +kernel
set_option maxRecDepth 100000 in
theorem ipk_3 : (ipCode 3).all (ipOKe 3) = true := by decide +kernel
set_option maxRecDepth 100000 in
theorem ipk_4 : (ipCode 4).all (ipOKe 4) = true := by decide +kernel
set_option maxRecDepth 100000 in
theorem ipk_5 : (ipCode 5).all (ipOKe 5) = true := by decide +kernel
set_option maxRecDepth 100000 in
theorem ipk_6 : (ipCode 6).all (ipOKe 6) = true := by decide +kernel
set_option maxRecDepth 100000 in
theorem ipk_7 : (ipCode 7).all (ipOKe 7) = true := by decide +kernel
set_option maxRecDepth 100000 in
theorem ipk_8 : (ipCode 8).all (ipOKe 8) = true := by decide +kernel
set_option maxRecDepth 100000 in
theorem ipk_9 : (ipCode 9).all (ipOKe 9) = true := by decide +kernel
set_option maxRecDepth 100000 in
theorem ipk_10 : (ipCode 10).all (ipOKe 10) = true := by decide +kernel
set_option maxRecDepth 100000 in
theorem ipk_11 : (ipCode 11).all (ipOKe 11) = true := by decide +kernel
set_option maxRecDepth 100000 in
theorem ipk_12 : (ipCode 12).all (ipOKe 12) = true := by decide +kernel
set_option maxRecDepth 100000 in
theorem ipk_13 : (ipCode 13).all (ipOKe 13) = true := by decide +kernel
set_option maxRecDepth 100000 in
theorem ipk_14 : (ipCode 14).all (ipOKe 14) = true := by decide +kernel
set_option maxRecDepth 100000 in
theorem ipk_15 : (ipCode 15).all (ipOKe 15) = true := by decide +kernel
set_option maxRecDepth 100000 in
theorem ipk_16 : (ipCode 16).all (ipOKe 16) = true := by decide +kernel
set_option maxRecDepth 100000 in
theorem ipk_17 : (ipCode 17).all (ipOKe 17) = true := by decide +kernel
set_option maxRecDepth 100000 in
theorem ipk_18 : (ipCode 18).all (ipOKe 18) = true := by decide +kernel
set_option maxRecDepth 100000 in
theorem ipk_19 : (ipCode 19).all (ipOKe 19) = true := by decide +kernel
set_option maxRecDepth 100000 in
theorem ipk_20 : (ipCode 20).all (ipOKe 20) = true := by decide +kernel
set_option maxRecDepth 100000 in
theorem ipk_21_0 : (((ipCode 21).drop 0).take 50).all (ipOKe 21) = true := by decide +kernel
set_option maxRecDepth 100000 in
theorem ipk_21_1 : (((ipCode 21).drop 50).take 50).all (ipOKe 21) = true := by decide +kernel
theorem ipk_21 : (ipCode 21).all (ipOKe 21) = true := ipAllC 50 (ipCode 21) (ipOKe 21) 2 (by decide +kernel) (fun j hj => match j, hj with
  | 0, _ => ipk_21_0
  | 1, _ => ipk_21_1
  | n + 2, h => absurd h (by omega))
set_option maxRecDepth 100000 in
theorem ipk_22_0 : (((ipCode 22).drop 0).take 50).all (ipOKe 22) = true := by decide +kernel
set_option maxRecDepth 100000 in
theorem ipk_22_1 : (((ipCode 22).drop 50).take 50).all (ipOKe 22) = true := by decide +kernel
theorem ipk_22 : (ipCode 22).all (ipOKe 22) = true := ipAllC 50 (ipCode 22) (ipOKe 22) 2 (by decide +kernel) (fun j hj => match j, hj with
  | 0, _ => ipk_22_0
  | 1, _ => ipk_22_1
  | n + 2, h => absurd h (by omega))
set_option maxRecDepth 100000 in
theorem ipk_23_0 : (((ipCode 23).drop 0).take 50).all (ipOKe 23) = true := by decide +kernel
set_option maxRecDepth 100000 in
theorem ipk_23_1 : (((ipCode 23).drop 50).take 50).all (ipOKe 23) = true := by decide +kernel
set_option maxRecDepth 100000 in
theorem ipk_23_2 : (((ipCode 23).drop 100).take 50).all (ipOKe 23) = true := by decide +kernel
theorem ipk_23 : (ipCode 23).all (ipOKe 23) = true := ipAllC 50 (ipCode 23) (ipOKe 23) 3 (by decide +kernel) (fun j hj => match j, hj with
  | 0, _ => ipk_23_0
  | 1, _ => ipk_23_1
  | 2, _ => ipk_23_2
  | n + 3, h => absurd h (by omega))
set_option maxRecDepth 100000 in
theorem ipk_24 : (ipCode 24).all (ipOKe 24) = true := by decide +kernel
set_option maxRecDepth 100000 in
theorem ipk_25_0 : (((ipCode 25).drop 0).take 50).all (ipOKe 25) = true := by decide +kernel
set_option maxRecDepth 100000 in
theorem ipk_25_1 : (((ipCode 25).drop 50).take 50).all (ipOKe 25) = true := by decide +kernel
theorem ipk_25 : (ipCode 25).all (ipOKe 25) = true := ipAllC 50 (ipCode 25) (ipOKe 25) 2 (by decide +kernel) (fun j hj => match j, hj with
  | 0, _ => ipk_25_0
  | 1, _ => ipk_25_1
  | n + 2, h => absurd h (by omega))
set_option maxRecDepth 100000 in
theorem ipk_26 : (ipCode 26).all (ipOKe 26) = true := by decide +kernel
set_option maxRecDepth 100000 in
theorem ipk_27 : (ipCode 27).all (ipOKe 27) = true := by decide +kernel
set_option maxRecDepth 100000 in
theorem ipk_28 : (ipCode 28).all (ipOKe 28) = true := by decide +kernel
set_option maxRecDepth 100000 in
theorem ipk_29 : (ipCode 29).all (ipOKe 29) = true := by decide +kernel
set_option maxRecDepth 100000 in
theorem ipk_30_0 : (((ipCode 30).drop 0).take 50).all (ipOKe 30) = true := by decide +kernel
set_option maxRecDepth 100000 in
theorem ipk_30_1 : (((ipCode 30).drop 50).take 50).all (ipOKe 30) = true := by decide +kernel
theorem ipk_30 : (ipCode 30).all (ipOKe 30) = true := ipAllC 50 (ipCode 30) (ipOKe 30) 2 (by decide +kernel) (fun j hj => match j, hj with
  | 0, _ => ipk_30_0
  | 1, _ => ipk_30_1
  | n + 2, h => absurd h (by omega))
set_option maxRecDepth 100000 in
theorem ipk_31 : (ipCode 31).all (ipOKe 31) = true := by decide +kernel
set_option maxRecDepth 100000 in
theorem ipk_32 : (ipCode 32).all (ipOKe 32) = true := by decide +kernel
set_option maxRecDepth 100000 in
theorem ipk_33 : (ipCode 33).all (ipOKe 33) = true := by decide +kernel
set_option maxRecDepth 100000 in
theorem ipk_34 : (ipCode 34).all (ipOKe 34) = true := by decide +kernel
set_option maxRecDepth 100000 in
theorem ipk_35 : (ipCode 35).all (ipOKe 35) = true := by decide +kernel
set_option maxRecDepth 100000 in
theorem ipk_36 : (ipCode 36).all (ipOKe 36) = true := by decide +kernel
set_option maxRecDepth 100000 in
theorem ipk_37 : (ipCode 37).all (ipOKe 37) = true := by decide +kernel
set_option maxRecDepth 100000 in
theorem ipk_38 : (ipCode 38).all (ipOKe 38) = true := by decide +kernel
set_option maxRecDepth 100000 in
theorem ipk_39 : (ipCode 39).all (ipOKe 39) = true := by decide +kernel
set_option maxRecDepth 100000 in
theorem ipk_40 : (ipCode 40).all (ipOKe 40) = true := by decide +kernel
set_option maxRecDepth 100000 in
theorem ipk_41 : (ipCode 41).all (ipOKe 41) = true := by decide +kernel
set_option maxRecDepth 100000 in
theorem ipk_42 : (ipCode 42).all (ipOKe 42) = true := by decide +kernel
set_option maxRecDepth 100000 in
theorem ipk_43 : (ipCode 43).all (ipOKe 43) = true := by decide +kernel
set_option maxRecDepth 100000 in
theorem ipk_44 : (ipCode 44).all (ipOKe 44) = true := by decide +kernel
set_option maxRecDepth 100000 in
theorem ipk_45_0 : (((ipCode 45).drop 0).take 50).all (ipOKe 45) = true := by decide +kernel
set_option maxRecDepth 100000 in
theorem ipk_45_1 : (((ipCode 45).drop 50).take 50).all (ipOKe 45) = true := by decide +kernel
theorem ipk_45 : (ipCode 45).all (ipOKe 45) = true := ipAllC 50 (ipCode 45) (ipOKe 45) 2 (by decide +kernel) (fun j hj => match j, hj with
  | 0, _ => ipk_45_0
  | 1, _ => ipk_45_1
  | n + 2, h => absurd h (by omega))
set_option maxRecDepth 100000 in
theorem ipk_46_0 : (((ipCode 46).drop 0).take 50).all (ipOKe 46) = true := by decide +kernel
set_option maxRecDepth 100000 in
theorem ipk_46_1 : (((ipCode 46).drop 50).take 50).all (ipOKe 46) = true := by decide +kernel
theorem ipk_46 : (ipCode 46).all (ipOKe 46) = true := ipAllC 50 (ipCode 46) (ipOKe 46) 2 (by decide +kernel) (fun j hj => match j, hj with
  | 0, _ => ipk_46_0
  | 1, _ => ipk_46_1
  | n + 2, h => absurd h (by omega))
set_option maxRecDepth 100000 in
theorem ipk_47_0 : (((ipCode 47).drop 0).take 50).all (ipOKe 47) = true := by decide +kernel
set_option maxRecDepth 100000 in
theorem ipk_47_1 : (((ipCode 47).drop 50).take 50).all (ipOKe 47) = true := by decide +kernel
theorem ipk_47 : (ipCode 47).all (ipOKe 47) = true := ipAllC 50 (ipCode 47) (ipOKe 47) 2 (by decide +kernel) (fun j hj => match j, hj with
  | 0, _ => ipk_47_0
  | 1, _ => ipk_47_1
  | n + 2, h => absurd h (by omega))
set_option maxRecDepth 100000 in
theorem ipk_48 : (ipCode 48).all (ipOKe 48) = true := by decide +kernel
set_option maxRecDepth 100000 in
theorem ipk_49 : (ipCode 49).all (ipOKe 49) = true := by decide +kernel
set_option maxRecDepth 100000 in
theorem ipk_50 : (ipCode 50).all (ipOKe 50) = true := by decide +kernel
set_option maxRecDepth 100000 in
theorem ipk_51 : (ipCode 51).all (ipOKe 51) = true := by decide +kernel
set_option maxRecDepth 100000 in
theorem ipk_52 : (ipCode 52).all (ipOKe 52) = true := by decide +kernel
set_option maxRecDepth 100000 in
theorem ipk_53 : (ipCode 53).all (ipOKe 53) = true := by decide +kernel
set_option maxRecDepth 100000 in
theorem ipk_54_0 : (((ipCode 54).drop 0).take 50).all (ipOKe 54) = true := by decide +kernel
set_option maxRecDepth 100000 in
theorem ipk_54_1 : (((ipCode 54).drop 50).take 50).all (ipOKe 54) = true := by decide +kernel
theorem ipk_54 : (ipCode 54).all (ipOKe 54) = true := ipAllC 50 (ipCode 54) (ipOKe 54) 2 (by decide +kernel) (fun j hj => match j, hj with
  | 0, _ => ipk_54_0
  | 1, _ => ipk_54_1
  | n + 2, h => absurd h (by omega))
set_option maxRecDepth 100000 in
theorem ipk_55 : (ipCode 55).all (ipOKe 55) = true := by decide +kernel
set_option maxRecDepth 100000 in
theorem ipk_56 : (ipCode 56).all (ipOKe 56) = true := by decide +kernel
set_option maxRecDepth 100000 in
theorem ipk_57 : (ipCode 57).all (ipOKe 57) = true := by decide +kernel
set_option maxRecDepth 100000 in
theorem ipk_58 : (ipCode 58).all (ipOKe 58) = true := by decide +kernel
set_option maxRecDepth 100000 in
theorem ipk_59_0 : (((ipCode 59).drop 0).take 50).all (ipOKe 59) = true := by decide +kernel
set_option maxRecDepth 100000 in
theorem ipk_59_1 : (((ipCode 59).drop 50).take 50).all (ipOKe 59) = true := by decide +kernel
theorem ipk_59 : (ipCode 59).all (ipOKe 59) = true := ipAllC 50 (ipCode 59) (ipOKe 59) 2 (by decide +kernel) (fun j hj => match j, hj with
  | 0, _ => ipk_59_0
  | 1, _ => ipk_59_1
  | n + 2, h => absurd h (by omega))
set_option maxRecDepth 100000 in
theorem ipk_60_0 : (((ipCode 60).drop 0).take 50).all (ipOKe 60) = true := by decide +kernel
set_option maxRecDepth 100000 in
theorem ipk_60_1 : (((ipCode 60).drop 50).take 50).all (ipOKe 60) = true := by decide +kernel
theorem ipk_60 : (ipCode 60).all (ipOKe 60) = true := ipAllC 50 (ipCode 60) (ipOKe 60) 2 (by decide +kernel) (fun j hj => match j, hj with
  | 0, _ => ipk_60_0
  | 1, _ => ipk_60_1
  | n + 2, h => absurd h (by omega))
set_option maxRecDepth 100000 in
theorem ipk_61 : (ipCode 61).all (ipOKe 61) = true := by decide +kernel
set_option maxRecDepth 100000 in
theorem ipk_62 : (ipCode 62).all (ipOKe 62) = true := by decide +kernel
set_option maxRecDepth 100000 in
theorem ipk_63 : (ipCode 63).all (ipOKe 63) = true := by decide +kernel
set_option maxRecDepth 100000 in
theorem ipk_64 : (ipCode 64).all (ipOKe 64) = true := by decide +kernel
set_option maxRecDepth 100000 in
theorem ipk_65_0 : (((ipCode 65).drop 0).take 50).all (ipOKe 65) = true := by decide +kernel
set_option maxRecDepth 100000 in
theorem ipk_65_1 : (((ipCode 65).drop 50).take 50).all (ipOKe 65) = true := by decide +kernel
theorem ipk_65 : (ipCode 65).all (ipOKe 65) = true := ipAllC 50 (ipCode 65) (ipOKe 65) 2 (by decide +kernel) (fun j hj => match j, hj with
  | 0, _ => ipk_65_0
  | 1, _ => ipk_65_1
  | n + 2, h => absurd h (by omega))
set_option maxRecDepth 100000 in
theorem ipk_66 : (ipCode 66).all (ipOKe 66) = true := by decide +kernel
set_option maxRecDepth 100000 in
theorem ipk_67 : (ipCode 67).all (ipOKe 67) = true := by decide +kernel
set_option maxRecDepth 100000 in
theorem ipk_68_0 : (((ipCode 68).drop 0).take 50).all (ipOKe 68) = true := by decide +kernel
set_option maxRecDepth 100000 in
theorem ipk_68_1 : (((ipCode 68).drop 50).take 50).all (ipOKe 68) = true := by decide +kernel
theorem ipk_68 : (ipCode 68).all (ipOKe 68) = true := ipAllC 50 (ipCode 68) (ipOKe 68) 2 (by decide +kernel) (fun j hj => match j, hj with
  | 0, _ => ipk_68_0
  | 1, _ => ipk_68_1
  | n + 2, h => absurd h (by omega))
set_option maxRecDepth 100000 in
theorem ipk_69_0 : (((ipCode 69).drop 0).take 50).all (ipOKe 69) = true := by decide +kernel
set_option maxRecDepth 100000 in
theorem ipk_69_1 : (((ipCode 69).drop 50).take 50).all (ipOKe 69) = true := by decide +kernel
theorem ipk_69 : (ipCode 69).all (ipOKe 69) = true := ipAllC 50 (ipCode 69) (ipOKe 69) 2 (by decide +kernel) (fun j hj => match j, hj with
  | 0, _ => ipk_69_0
  | 1, _ => ipk_69_1
  | n + 2, h => absurd h (by omega))
set_option maxRecDepth 100000 in
theorem ipk_70 : (ipCode 70).all (ipOKe 70) = true := by decide +kernel
set_option maxRecDepth 100000 in
theorem ipk_71 : (ipCode 71).all (ipOKe 71) = true := by decide +kernel
set_option maxRecDepth 100000 in
theorem ipk_72 : (ipCode 72).all (ipOKe 72) = true := by decide +kernel
set_option maxRecDepth 100000 in
theorem ipk_73 : (ipCode 73).all (ipOKe 73) = true := by decide +kernel
set_option maxRecDepth 100000 in
theorem ipk_74 : (ipCode 74).all (ipOKe 74) = true := by decide +kernel
set_option maxRecDepth 100000 in
theorem ipk_75 : (ipCode 75).all (ipOKe 75) = true := by decide +kernel
set_option maxRecDepth 100000 in
theorem ipk_76 : (ipCode 76).all (ipOKe 76) = true := by decide +kernel
set_option maxRecDepth 100000 in
theorem ipk_77 : (ipCode 77).all (ipOKe 77) = true := by decide +kernel
set_option maxRecDepth 100000 in
theorem ipk_78 : (ipCode 78).all (ipOKe 78) = true := by decide +kernel
set_option maxRecDepth 100000 in
theorem ipk_79 : (ipCode 79).all (ipOKe 79) = true := by decide +kernel
set_option maxRecDepth 100000 in
theorem ipk_80 : (ipCode 80).all (ipOKe 80) = true := by decide +kernel
set_option maxRecDepth 100000 in
theorem ipk_81 : (ipCode 81).all (ipOKe 81) = true := by decide +kernel
set_option maxRecDepth 100000 in
theorem ipk_82 : (ipCode 82).all (ipOKe 82) = true := by decide +kernel
set_option maxRecDepth 100000 in
theorem ipk_83 : (ipCode 83).all (ipOKe 83) = true := by decide +kernel
set_option maxRecDepth 100000 in
theorem ipk_84 : (ipCode 84).all (ipOKe 84) = true := by decide +kernel
set_option maxRecDepth 100000 in
theorem ipk_85 : (ipCode 85).all (ipOKe 85) = true := by decide +kernel
set_option maxRecDepth 100000 in
theorem ipk_86 : (ipCode 86).all (ipOKe 86) = true := by decide +kernel
set_option maxRecDepth 100000 in
theorem ipk_87 : (ipCode 87).all (ipOKe 87) = true := by decide +kernel
set_option maxRecDepth 100000 in
theorem ipk_88 : (ipCode 88).all (ipOKe 88) = true := by decide +kernel
set_option maxRecDepth 100000 in
theorem ipk_89 : (ipCode 89).all (ipOKe 89) = true := by decide +kernel
set_option maxRecDepth 100000 in
theorem ipk_90 : (ipCode 90).all (ipOKe 90) = true := by decide +kernel
set_option maxRecDepth 100000 in
theorem ipk_91 : (ipCode 91).all (ipOKe 91) = true := by decide +kernel
set_option maxRecDepth 100000 in
theorem ipk_92_0 : (((ipCode 92).drop 0).take 50).all (ipOKe 92) = true := by decide +kernel
set_option maxRecDepth 100000 in
theorem ipk_92_1 : (((ipCode 92).drop 50).take 50).all (ipOKe 92) = true := by decide +kernel
theorem ipk_92 : (ipCode 92).all (ipOKe 92) = true := ipAllC 50 (ipCode 92) (ipOKe 92) 2 (by decide +kernel) (fun j hj => match j, hj with
  | 0, _ => ipk_92_0
  | 1, _ => ipk_92_1
  | n + 2, h => absurd h (by omega))
set_option maxRecDepth 100000 in
theorem ipk_93 : (ipCode 93).all (ipOKe 93) = true := by decide +kernel
set_option maxRecDepth 100000 in
theorem ipk_94 : (ipCode 94).all (ipOKe 94) = true := by decide +kernel
set_option maxRecDepth 100000 in
theorem ipk_95 : (ipCode 95).all (ipOKe 95) = true := by decide +kernel
set_option maxRecDepth 100000 in
theorem ipk_96 : (ipCode 96).all (ipOKe 96) = true := by decide +kernel
set_option maxRecDepth 100000 in
theorem ipk_97 : (ipCode 97).all (ipOKe 97) = true := by decide +kernel
set_option maxRecDepth 100000 in
theorem ipk_98 : (ipCode 98).all (ipOKe 98) = true := by decide +kernel
set_option maxRecDepth 100000 in
theorem ipk_99 : (ipCode 99).all (ipOKe 99) = true := by decide +kernel
set_option maxRecDepth 100000 in
theorem ipk_100 : (ipCode 100).all (ipOKe 100) = true := by decide +kernel
set_option maxRecDepth 100000 in
theorem ipk_101 : (ipCode 101).all (ipOKe 101) = true := by decide +kernel
set_option maxRecDepth 100000 in
theorem ipk_102 : (ipCode 102).all (ipOKe 102) = true := by decide +kernel
set_option maxRecDepth 100000 in
theorem ipk_103 : (ipCode 103).all (ipOKe 103) = true := by decide +kernel
set_option maxRecDepth 100000 in
theorem ipk_104 : (ipCode 104).all (ipOKe 104) = true := by decide +kernel
set_option maxRecDepth 100000 in
theorem ipk_105 : (ipCode 105).all (ipOKe 105) = true := by decide +kernel
set_option maxRecDepth 100000 in
theorem ipk_106 : (ipCode 106).all (ipOKe 106) = true := by decide +kernel
set_option maxRecDepth 100000 in
theorem ipk_107 : (ipCode 107).all (ipOKe 107) = true := by decide +kernel
set_option maxRecDepth 100000 in
theorem ipk_108_0 : (((ipCode 108).drop 0).take 50).all (ipOKe 108) = true := by decide +kernel
set_option maxRecDepth 100000 in
theorem ipk_108_1 : (((ipCode 108).drop 50).take 50).all (ipOKe 108) = true := by decide +kernel
set_option maxRecDepth 100000 in
theorem ipk_108_2 : (((ipCode 108).drop 100).take 50).all (ipOKe 108) = true := by decide +kernel
set_option maxRecDepth 100000 in
theorem ipk_108_3 : (((ipCode 108).drop 150).take 50).all (ipOKe 108) = true := by decide +kernel
set_option maxRecDepth 100000 in
theorem ipk_108_4 : (((ipCode 108).drop 200).take 50).all (ipOKe 108) = true := by decide +kernel
theorem ipk_108 : (ipCode 108).all (ipOKe 108) = true := ipAllC 50 (ipCode 108) (ipOKe 108) 5 (by decide +kernel) (fun j hj => match j, hj with
  | 0, _ => ipk_108_0
  | 1, _ => ipk_108_1
  | 2, _ => ipk_108_2
  | 3, _ => ipk_108_3
  | 4, _ => ipk_108_4
  | n + 5, h => absurd h (by omega))
set_option maxRecDepth 100000 in
theorem ipk_109 : (ipCode 109).all (ipOKe 109) = true := by decide +kernel
set_option maxRecDepth 100000 in
theorem ipk_110 : (ipCode 110).all (ipOKe 110) = true := by decide +kernel
set_option maxRecDepth 100000 in
theorem ipk_111 : (ipCode 111).all (ipOKe 111) = true := by decide +kernel
set_option maxRecDepth 100000 in
theorem ipk_112 : (ipCode 112).all (ipOKe 112) = true := by decide +kernel
set_option maxRecDepth 100000 in
theorem ipk_113 : (ipCode 113).all (ipOKe 113) = true := by decide +kernel
set_option maxRecDepth 100000 in
theorem ipk_114 : (ipCode 114).all (ipOKe 114) = true := by decide +kernel
set_option maxRecDepth 100000 in
theorem ipk_115 : (ipCode 115).all (ipOKe 115) = true := by decide +kernel
set_option maxRecDepth 100000 in
theorem ipk_116_0 : (((ipCode 116).drop 0).take 50).all (ipOKe 116) = true := by decide +kernel
set_option maxRecDepth 100000 in
theorem ipk_116_1 : (((ipCode 116).drop 50).take 50).all (ipOKe 116) = true := by decide +kernel
set_option maxRecDepth 100000 in
theorem ipk_116_2 : (((ipCode 116).drop 100).take 50).all (ipOKe 116) = true := by decide +kernel
set_option maxRecDepth 100000 in
theorem ipk_116_3 : (((ipCode 116).drop 150).take 50).all (ipOKe 116) = true := by decide +kernel
set_option maxRecDepth 100000 in
theorem ipk_116_4 : (((ipCode 116).drop 200).take 50).all (ipOKe 116) = true := by decide +kernel
theorem ipk_116 : (ipCode 116).all (ipOKe 116) = true := ipAllC 50 (ipCode 116) (ipOKe 116) 5 (by decide +kernel) (fun j hj => match j, hj with
  | 0, _ => ipk_116_0
  | 1, _ => ipk_116_1
  | 2, _ => ipk_116_2
  | 3, _ => ipk_116_3
  | 4, _ => ipk_116_4
  | n + 5, h => absurd h (by omega))
set_option maxRecDepth 100000 in
theorem ipk_117 : (ipCode 117).all (ipOKe 117) = true := by decide +kernel
set_option maxRecDepth 100000 in
theorem ipk_118 : (ipCode 118).all (ipOKe 118) = true := by decide +kernel
set_option maxRecDepth 100000 in
theorem ipk_119_0 : (((ipCode 119).drop 0).take 50).all (ipOKe 119) = true := by decide +kernel
set_option maxRecDepth 100000 in
theorem ipk_119_1 : (((ipCode 119).drop 50).take 50).all (ipOKe 119) = true := by decide +kernel
theorem ipk_119 : (ipCode 119).all (ipOKe 119) = true := ipAllC 50 (ipCode 119) (ipOKe 119) 2 (by decide +kernel) (fun j hj => match j, hj with
  | 0, _ => ipk_119_0
  | 1, _ => ipk_119_1
  | n + 2, h => absurd h (by omega))
set_option maxRecDepth 100000 in
theorem ipk_120_0 : (((ipCode 120).drop 0).take 50).all (ipOKe 120) = true := by decide +kernel
set_option maxRecDepth 100000 in
theorem ipk_120_1 : (((ipCode 120).drop 50).take 50).all (ipOKe 120) = true := by decide +kernel
theorem ipk_120 : (ipCode 120).all (ipOKe 120) = true := ipAllC 50 (ipCode 120) (ipOKe 120) 2 (by decide +kernel) (fun j hj => match j, hj with
  | 0, _ => ipk_120_0
  | 1, _ => ipk_120_1
  | n + 2, h => absurd h (by omega))
set_option maxRecDepth 100000 in
theorem ipk_121 : (ipCode 121).all (ipOKe 121) = true := by decide +kernel
set_option maxRecDepth 100000 in
theorem ipk_122 : (ipCode 122).all (ipOKe 122) = true := by decide +kernel
set_option maxRecDepth 100000 in
theorem ipk_123 : (ipCode 123).all (ipOKe 123) = true := by decide +kernel
set_option maxRecDepth 100000 in
theorem ipk_124 : (ipCode 124).all (ipOKe 124) = true := by decide +kernel
set_option maxRecDepth 100000 in
theorem ipk_125 : (ipCode 125).all (ipOKe 125) = true := by decide +kernel
set_option maxRecDepth 100000 in
theorem ipk_126 : (ipCode 126).all (ipOKe 126) = true := by decide +kernel
set_option maxRecDepth 100000 in
theorem ipk_127 : (ipCode 127).all (ipOKe 127) = true := by decide +kernel
set_option maxRecDepth 100000 in
theorem ipk_128_0 : (((ipCode 128).drop 0).take 50).all (ipOKe 128) = true := by decide +kernel
set_option maxRecDepth 100000 in
theorem ipk_128_1 : (((ipCode 128).drop 50).take 50).all (ipOKe 128) = true := by decide +kernel
theorem ipk_128 : (ipCode 128).all (ipOKe 128) = true := ipAllC 50 (ipCode 128) (ipOKe 128) 2 (by decide +kernel) (fun j hj => match j, hj with
  | 0, _ => ipk_128_0
  | 1, _ => ipk_128_1
  | n + 2, h => absurd h (by omega))
set_option maxRecDepth 100000 in
theorem ipk_129_0 : (((ipCode 129).drop 0).take 50).all (ipOKe 129) = true := by decide +kernel
set_option maxRecDepth 100000 in
theorem ipk_129_1 : (((ipCode 129).drop 50).take 50).all (ipOKe 129) = true := by decide +kernel
theorem ipk_129 : (ipCode 129).all (ipOKe 129) = true := ipAllC 50 (ipCode 129) (ipOKe 129) 2 (by decide +kernel) (fun j hj => match j, hj with
  | 0, _ => ipk_129_0
  | 1, _ => ipk_129_1
  | n + 2, h => absurd h (by omega))
set_option maxRecDepth 100000 in
theorem ipk_130 : (ipCode 130).all (ipOKe 130) = true := by decide +kernel
set_option maxRecDepth 100000 in
theorem ipk_131 : (ipCode 131).all (ipOKe 131) = true := by decide +kernel
set_option maxRecDepth 100000 in
theorem ipk_132 : (ipCode 132).all (ipOKe 132) = true := by decide +kernel
set_option maxRecDepth 100000 in
theorem ipk_133 : (ipCode 133).all (ipOKe 133) = true := by decide +kernel
set_option maxRecDepth 100000 in
theorem ipk_134 : (ipCode 134).all (ipOKe 134) = true := by decide +kernel
set_option maxRecDepth 100000 in
theorem ipk_135 : (ipCode 135).all (ipOKe 135) = true := by decide +kernel
set_option maxRecDepth 100000 in
theorem ipk_136_0 : (((ipCode 136).drop 0).take 50).all (ipOKe 136) = true := by decide +kernel
set_option maxRecDepth 100000 in
theorem ipk_136_1 : (((ipCode 136).drop 50).take 50).all (ipOKe 136) = true := by decide +kernel
set_option maxRecDepth 100000 in
theorem ipk_136_2 : (((ipCode 136).drop 100).take 50).all (ipOKe 136) = true := by decide +kernel
set_option maxRecDepth 100000 in
theorem ipk_136_3 : (((ipCode 136).drop 150).take 50).all (ipOKe 136) = true := by decide +kernel
theorem ipk_136 : (ipCode 136).all (ipOKe 136) = true := ipAllC 50 (ipCode 136) (ipOKe 136) 4 (by decide +kernel) (fun j hj => match j, hj with
  | 0, _ => ipk_136_0
  | 1, _ => ipk_136_1
  | 2, _ => ipk_136_2
  | 3, _ => ipk_136_3
  | n + 4, h => absurd h (by omega))
set_option maxRecDepth 100000 in
theorem ipk_137_0 : (((ipCode 137).drop 0).take 50).all (ipOKe 137) = true := by decide +kernel
set_option maxRecDepth 100000 in
theorem ipk_137_1 : (((ipCode 137).drop 50).take 50).all (ipOKe 137) = true := by decide +kernel
set_option maxRecDepth 100000 in
theorem ipk_137_2 : (((ipCode 137).drop 100).take 50).all (ipOKe 137) = true := by decide +kernel
theorem ipk_137 : (ipCode 137).all (ipOKe 137) = true := ipAllC 50 (ipCode 137) (ipOKe 137) 3 (by decide +kernel) (fun j hj => match j, hj with
  | 0, _ => ipk_137_0
  | 1, _ => ipk_137_1
  | 2, _ => ipk_137_2
  | n + 3, h => absurd h (by omega))
set_option maxRecDepth 100000 in
theorem ipk_138_0 : (((ipCode 138).drop 0).take 50).all (ipOKe 138) = true := by decide +kernel
set_option maxRecDepth 100000 in
theorem ipk_138_1 : (((ipCode 138).drop 50).take 50).all (ipOKe 138) = true := by decide +kernel
theorem ipk_138 : (ipCode 138).all (ipOKe 138) = true := ipAllC 50 (ipCode 138) (ipOKe 138) 2 (by decide +kernel) (fun j hj => match j, hj with
  | 0, _ => ipk_138_0
  | 1, _ => ipk_138_1
  | n + 2, h => absurd h (by omega))
set_option maxRecDepth 100000 in
theorem ipk_139_0 : (((ipCode 139).drop 0).take 50).all (ipOKe 139) = true := by decide +kernel
set_option maxRecDepth 100000 in
theorem ipk_139_1 : (((ipCode 139).drop 50).take 50).all (ipOKe 139) = true := by decide +kernel
set_option maxRecDepth 100000 in
theorem ipk_139_2 : (((ipCode 139).drop 100).take 50).all (ipOKe 139) = true := by decide +kernel
set_option maxRecDepth 100000 in
theorem ipk_139_3 : (((ipCode 139).drop 150).take 50).all (ipOKe 139) = true := by decide +kernel
theorem ipk_139 : (ipCode 139).all (ipOKe 139) = true := ipAllC 50 (ipCode 139) (ipOKe 139) 4 (by decide +kernel) (fun j hj => match j, hj with
  | 0, _ => ipk_139_0
  | 1, _ => ipk_139_1
  | 2, _ => ipk_139_2
  | 3, _ => ipk_139_3
  | n + 4, h => absurd h (by omega))
set_option maxRecDepth 100000 in
theorem ipk_140_0 : (((ipCode 140).drop 0).take 50).all (ipOKe 140) = true := by decide +kernel
set_option maxRecDepth 100000 in
theorem ipk_140_1 : (((ipCode 140).drop 50).take 50).all (ipOKe 140) = true := by decide +kernel
theorem ipk_140 : (ipCode 140).all (ipOKe 140) = true := ipAllC 50 (ipCode 140) (ipOKe 140) 2 (by decide +kernel) (fun j hj => match j, hj with
  | 0, _ => ipk_140_0
  | 1, _ => ipk_140_1
  | n + 2, h => absurd h (by omega))
set_option maxRecDepth 100000 in
theorem ipk_141 : (ipCode 141).all (ipOKe 141) = true := by decide +kernel
set_option maxRecDepth 100000 in
theorem ipk_142_0 : (((ipCode 142).drop 0).take 50).all (ipOKe 142) = true := by decide +kernel
set_option maxRecDepth 100000 in
theorem ipk_142_1 : (((ipCode 142).drop 50).take 50).all (ipOKe 142) = true := by decide +kernel
theorem ipk_142 : (ipCode 142).all (ipOKe 142) = true := ipAllC 50 (ipCode 142) (ipOKe 142) 2 (by decide +kernel) (fun j hj => match j, hj with
  | 0, _ => ipk_142_0
  | 1, _ => ipk_142_1
  | n + 2, h => absurd h (by omega))
set_option maxRecDepth 100000 in
theorem ipk_143 : (ipCode 143).all (ipOKe 143) = true := by decide +kernel
set_option maxRecDepth 100000 in
theorem ipk_144 : (ipCode 144).all (ipOKe 144) = true := by decide +kernel
set_option maxRecDepth 100000 in
theorem ipk_145_0 : (((ipCode 145).drop 0).take 50).all (ipOKe 145) = true := by decide +kernel
set_option maxRecDepth 100000 in
theorem ipk_145_1 : (((ipCode 145).drop 50).take 50).all (ipOKe 145) = true := by decide +kernel
set_option maxRecDepth 100000 in
theorem ipk_145_2 : (((ipCode 145).drop 100).take 50).all (ipOKe 145) = true := by decide +kernel
theorem ipk_145 : (ipCode 145).all (ipOKe 145) = true := ipAllC 50 (ipCode 145) (ipOKe 145) 3 (by decide +kernel) (fun j hj => match j, hj with
  | 0, _ => ipk_145_0
  | 1, _ => ipk_145_1
  | 2, _ => ipk_145_2
  | n + 3, h => absurd h (by omega))
set_option maxRecDepth 100000 in
theorem ipk_146 : (ipCode 146).all (ipOKe 146) = true := by decide +kernel
set_option maxRecDepth 100000 in
theorem ipk_147 : (ipCode 147).all (ipOKe 147) = true := by decide +kernel
set_option maxRecDepth 100000 in
theorem ipk_148_0 : (((ipCode 148).drop 0).take 50).all (ipOKe 148) = true := by decide +kernel
set_option maxRecDepth 100000 in
theorem ipk_148_1 : (((ipCode 148).drop 50).take 50).all (ipOKe 148) = true := by decide +kernel
theorem ipk_148 : (ipCode 148).all (ipOKe 148) = true := ipAllC 50 (ipCode 148) (ipOKe 148) 2 (by decide +kernel) (fun j hj => match j, hj with
  | 0, _ => ipk_148_0
  | 1, _ => ipk_148_1
  | n + 2, h => absurd h (by omega))
set_option maxRecDepth 100000 in
theorem ipk_149 : (ipCode 149).all (ipOKe 149) = true := by decide +kernel
set_option maxRecDepth 100000 in
theorem ipk_150 : (ipCode 150).all (ipOKe 150) = true := by decide +kernel
set_option maxRecDepth 100000 in
theorem ipk_151 : (ipCode 151).all (ipOKe 151) = true := by decide +kernel
set_option maxRecDepth 100000 in
theorem ipk_152_0 : (((ipCode 152).drop 0).take 50).all (ipOKe 152) = true := by decide +kernel
set_option maxRecDepth 100000 in
theorem ipk_152_1 : (((ipCode 152).drop 50).take 50).all (ipOKe 152) = true := by decide +kernel
set_option maxRecDepth 100000 in
theorem ipk_152_2 : (((ipCode 152).drop 100).take 50).all (ipOKe 152) = true := by decide +kernel
set_option maxRecDepth 100000 in
theorem ipk_152_3 : (((ipCode 152).drop 150).take 50).all (ipOKe 152) = true := by decide +kernel
set_option maxRecDepth 100000 in
theorem ipk_152_4 : (((ipCode 152).drop 200).take 50).all (ipOKe 152) = true := by decide +kernel
set_option maxRecDepth 100000 in
theorem ipk_152_5 : (((ipCode 152).drop 250).take 50).all (ipOKe 152) = true := by decide +kernel
set_option maxRecDepth 100000 in
theorem ipk_152_6 : (((ipCode 152).drop 300).take 50).all (ipOKe 152) = true := by decide +kernel
set_option maxRecDepth 100000 in
theorem ipk_152_7 : (((ipCode 152).drop 350).take 50).all (ipOKe 152) = true := by decide +kernel
theorem ipk_152 : (ipCode 152).all (ipOKe 152) = true := ipAllC 50 (ipCode 152) (ipOKe 152) 8 (by decide +kernel) (fun j hj => match j, hj with
  | 0, _ => ipk_152_0
  | 1, _ => ipk_152_1
  | 2, _ => ipk_152_2
  | 3, _ => ipk_152_3
  | 4, _ => ipk_152_4
  | 5, _ => ipk_152_5
  | 6, _ => ipk_152_6
  | 7, _ => ipk_152_7
  | n + 8, h => absurd h (by omega))
theorem ipk_in : ∀ mid, mid < 153 → (ipCode mid).all (ipOKe mid) = true := by
  intro mid h
  match mid, h with
  | 0, _ => exact ipk_0
  | 1, _ => exact ipk_1
  | 2, _ => exact ipk_2
  | 3, _ => exact ipk_3
  | 4, _ => exact ipk_4
  | 5, _ => exact ipk_5
  | 6, _ => exact ipk_6
  | 7, _ => exact ipk_7
  | 8, _ => exact ipk_8
  | 9, _ => exact ipk_9
  | 10, _ => exact ipk_10
  | 11, _ => exact ipk_11
  | 12, _ => exact ipk_12
  | 13, _ => exact ipk_13
  | 14, _ => exact ipk_14
  | 15, _ => exact ipk_15
  | 16, _ => exact ipk_16
  | 17, _ => exact ipk_17
  | 18, _ => exact ipk_18
  | 19, _ => exact ipk_19
  | 20, _ => exact ipk_20
  | 21, _ => exact ipk_21
  | 22, _ => exact ipk_22
  | 23, _ => exact ipk_23
  | 24, _ => exact ipk_24
  | 25, _ => exact ipk_25
  | 26, _ => exact ipk_26
  | 27, _ => exact ipk_27
  | 28, _ => exact ipk_28
  | 29, _ => exact ipk_29
  | 30, _ => exact ipk_30
  | 31, _ => exact ipk_31
  | 32, _ => exact ipk_32
  | 33, _ => exact ipk_33
  | 34, _ => exact ipk_34
  | 35, _ => exact ipk_35
  | 36, _ => exact ipk_36
  | 37, _ => exact ipk_37
  | 38, _ => exact ipk_38
  | 39, _ => exact ipk_39
  | 40, _ => exact ipk_40
  | 41, _ => exact ipk_41
  | 42, _ => exact ipk_42
  | 43, _ => exact ipk_43
  | 44, _ => exact ipk_44
  | 45, _ => exact ipk_45
  | 46, _ => exact ipk_46
  | 47, _ => exact ipk_47
  | 48, _ => exact ipk_48
  | 49, _ => exact ipk_49
  | 50, _ => exact ipk_50
  | 51, _ => exact ipk_51
  | 52, _ => exact ipk_52
  | 53, _ => exact ipk_53
  | 54, _ => exact ipk_54
  | 55, _ => exact ipk_55
  | 56, _ => exact ipk_56
  | 57, _ => exact ipk_57
  | 58, _ => exact ipk_58
  | 59, _ => exact ipk_59
  | 60, _ => exact ipk_60
  | 61, _ => exact ipk_61
  | 62, _ => exact ipk_62
  | 63, _ => exact ipk_63
  | 64, _ => exact ipk_64
  | 65, _ => exact ipk_65
  | 66, _ => exact ipk_66
  | 67, _ => exact ipk_67
  | 68, _ => exact ipk_68
  | 69, _ => exact ipk_69
  | 70, _ => exact ipk_70
  | 71, _ => exact ipk_71
  | 72, _ => exact ipk_72
  | 73, _ => exact ipk_73
  | 74, _ => exact ipk_74
  | 75, _ => exact ipk_75
  | 76, _ => exact ipk_76
  | 77, _ => exact ipk_77
  | 78, _ => exact ipk_78
  | 79, _ => exact ipk_79
  | 80, _ => exact ipk_80
  | 81, _ => exact ipk_81
  | 82, _ => exact ipk_82
  | 83, _ => exact ipk_83
  | 84, _ => exact ipk_84
  | 85, _ => exact ipk_85
  | 86, _ => exact ipk_86
  | 87, _ => exact ipk_87
  | 88, _ => exact ipk_88
  | 89, _ => exact ipk_89
  | 90, _ => exact ipk_90
  | 91, _ => exact ipk_91
  | 92, _ => exact ipk_92
  | 93, _ => exact ipk_93
  | 94, _ => exact ipk_94
  | 95, _ => exact ipk_95
  | 96, _ => exact ipk_96
  | 97, _ => exact ipk_97
  | 98, _ => exact ipk_98
  | 99, _ => exact ipk_99
  | 100, _ => exact ipk_100
  | 101, _ => exact ipk_101
  | 102, _ => exact ipk_102
  | 103, _ => exact ipk_103
  | 104, _ => exact ipk_104
  | 105, _ => exact ipk_105
  | 106, _ => exact ipk_106
  | 107, _ => exact ipk_107
  | 108, _ => exact ipk_108
  | 109, _ => exact ipk_109
  | 110, _ => exact ipk_110
  | 111, _ => exact ipk_111
  | 112, _ => exact ipk_112
  | 113, _ => exact ipk_113
  | 114, _ => exact ipk_114
  | 115, _ => exact ipk_115
  | 116, _ => exact ipk_116
  | 117, _ => exact ipk_117
  | 118, _ => exact ipk_118
  | 119, _ => exact ipk_119
  | 120, _ => exact ipk_120
  | 121, _ => exact ipk_121
  | 122, _ => exact ipk_122
  | 123, _ => exact ipk_123
  | 124, _ => exact ipk_124
  | 125, _ => exact ipk_125
  | 126, _ => exact ipk_126
  | 127, _ => exact ipk_127
  | 128, _ => exact ipk_128
  | 129, _ => exact ipk_129
  | 130, _ => exact ipk_130
  | 131, _ => exact ipk_131
  | 132, _ => exact ipk_132
  | 133, _ => exact ipk_133
  | 134, _ => exact ipk_134
  | 135, _ => exact ipk_135
  | 136, _ => exact ipk_136
  | 137, _ => exact ipk_137
  | 138, _ => exact ipk_138
  | 139, _ => exact ipk_139
  | 140, _ => exact ipk_140
  | 141, _ => exact ipk_141
  | 142, _ => exact ipk_142
  | 143, _ => exact ipk_143
  | 144, _ => exact ipk_144
  | 145, _ => exact ipk_145
  | 146, _ => exact ipk_146
  | 147, _ => exact ipk_147
  | 148, _ => exact ipk_148
  | 149, _ => exact ipk_149
  | 150, _ => exact ipk_150
  | 151, _ => exact ipk_151
  | 152, _ => exact ipk_152
  | n + 153, h => exact absurd h (by omega)
theorem ipk_all (mid : Nat) : (ipCode mid).all (ipOKe mid) = true := by
  by_cases h : mid < 153
  · exact ipk_in mid h
  · have h0 : ipCodes.length = 153 := rfl
    have h1 : ipCodes[mid]? = none := by rw [List.getElem?_eq_none_iff]; omega
    have : ipCode mid = [] := by unfold ipCode; rw [List.getD_eq_getElem?_getD, h1]; rfl
    rw [this]; rfl
theorem ipFind_mem : ∀ (l : List ipEnt) (pc : Nat) (q : Instr × Nat × Nat × Nat), ipFind l pc = some q → (pc, q) ∈ l
  | [], _, _, h => by cases h
  | r :: l, pc, q, h => by
    unfold ipFind at h
    by_cases e : r.1 = pc
    · rw [if_pos e] at h
      cases h
      rw [← e]
      exact List.mem_cons_self
    · rw [if_neg e] at h
      exact List.mem_cons_of_mem _ (ipFind_mem l pc q h)
theorem ipAt_ok {mid pc : Nat} {i : Instr} {len a b : Nat} (h : ipAt mid pc = some (i, len, a, b)) : decode (ipB mid) pc = .ok (i, len) ∧ ipLk mid pc i a b = true := by
  have h1 := List.all_eq_true.mp (ipk_all mid) _ (ipFind_mem _ _ _ h)
  simp only [ipOKe, Bool.and_eq_true, decide_eq_true_eq] at h1
  exact h1
end
section
/-! the bytecode as rules over a picture of the heap: 'ip' is the least predicate closed under the rules -/
abbrev hE : Type := (Nat × vp_A) ⊕ (Nat × List Value)
abbrev HP : Type := Nat → Option hE
abbrev ipV : Type := List (Option Value)
abbrev ipQ : Type := Option Value → HP → Nat → Prop
abbrev ipI : Type := Nat → ipV → List Value → HP → Nat → Nat → Nat → Prop
abbrev ipCall : Type := Nat → List Value → HP → Nat → Nat → Nat → ipQ → Prop
abbrev ipSc : Type := Nat × Nat × (Nat → Int32)
def hup (h : HP) (a : Nat) (e : hE) : HP := fun x => if x = a then some e else h x
def ipKill (lv : ipV) (i : Nat) : ipV := match i with
  | 0 => lv
  | j + 1 => match lv[j]? with
    | some (some w) => if w.category = 2 then lv.set j none else lv
    | _ => lv
def ipSet (lv : ipV) (i : Nat) (v : Value) : ipV := if v.category = 2 then ((ipKill lv i).set i (some v)).set (i + 1) none else (ipKill lv i).set i (some v)
def ipCon (i : Instr) (a : Nat) : Option Value := match i with
  | .iconst n => some (.int (Int32.ofInt n))
  | .bipush n => some (.int (Int8.ofInt n).toInt32)
  | .sipush n => some (.int (Int16.ofInt n).toInt32)
  | .lconst n => some (.long (Int64.ofNat (n : Nat)))
  | .ldc _ => some (.int (Int32.ofNat a))
  | .ldc_w _ => some (.int (Int32.ofNat a))
  | .ldc2_w _ => some (.long (Int64.ofNat a))
  | _ => none
def ipLd (i : Instr) (v : Value) : Option Nat := match v with
  | .int _ => (match i with
    | .iload n => some n
    | .iload_n n => some n
    | _ => none)
  | .long _ => (match i with
    | .lload n => some n
    | .lload_n n => some n
    | _ => none)
  | .ref _ => (match i with
    | .aload n => some n
    | .aload_n n => some n
    | _ => none)
  | _ => none
def ipSto (i : Instr) (v : Value) : Option Nat := match v with
  | .int _ => (match i with
    | .istore n => some n
    | .istore_n n => some n
    | _ => none)
  | .long _ => (match i with
    | .lstore n => some n
    | .lstore_n n => some n
    | _ => none)
  | .ref _ => (match i with
    | .astore n => some n
    | .astore_n n => some n
    | _ => none)
  | _ => none
def ipBin (i : Instr) (x y : Int32) : Option Int32 := match i with
  | .iadd => some (x + y)
  | .isub => some (x - y)
  | .imul => some (x * y)
  | .iand => some (x &&& y)
  | .ior => some (x ||| y)
  | .ixor => some (x ^^^ y)
  | .ishl => some (x <<< (y &&& 31))
  | .ishr => some (x >>> (y &&& 31))
  | .iushr => some (x.toUInt32 >>> (y.toUInt32 &&& Int32.toUInt32 31)).toInt32
  | _ => none
def ipLbin (i : Instr) (x y : Int64) : Option Int64 := match i with
  | .ladd => some (x + y)
  | .lmul => some (x * y)
  | .lor => some (x ||| y)
  | .lxor => some (x ^^^ y)
  | _ => none
def ipLsh (i : Instr) (x : Int64) (y : Int32) : Option Int64 := match i with
  | .lshl => some (x <<< (y.toInt64 &&& 63))
  | .lshr => some (x >>> (y.toInt64 &&& 63))
  | .lushr => some (x.toUInt64 >>> (y.toInt64.toUInt64 &&& Int64.toUInt64 63)).toInt64
  | _ => none
def ipCv (i : Instr) (v : Value) : Option Value := match v with
  | .int x => (match i with
    | .i2l => some (.long x.toInt64)
    | .i2b => some (.int x.toInt8.toInt32)
    | .ineg => some (.int (-x))
    | _ => none)
  | .long x => (match i with
    | .l2i => some (.int x.toInt32)
    | _ => none)
  | _ => none
def ipCmp (cd : ClassFile.Cond) (x y : Int32) : Prop := match cd with
  | .eq => x = y
  | .ne => ¬ x = y
  | .lt => x < y
  | .ge => y ≤ x
  | .gt => y < x
  | .le => x ≤ y
def ipTg (pc : Nat) (off : Int) : Option Nat := if 0 ≤ (pc : Int) + off then some ((pc : Int) + off).toNat else none
def ipTab (pc : Nat) (d lo hi : Int) (offs : Array Int) (x : Int32) : Option Nat := if x.toInt < lo ∨ hi < x.toInt then ipTg pc d else match offs[(x.toInt - lo).toNat]? with
  | some off => ipTg pc off
  | none => none
def ipFit (ci k : Nat) (v : Value) : Prop := narrow (ipTy ci k) v = v ∧ fits (ipTy ci k) v = true
def ipDef (ci : Nat) : List Value := (List.range (ipN ci)).map (fun k => defaultValue (ipTy ci k))
def ipArr (t n : Nat) : vp_A := match t with
  | 0 => (n, .inl (fun _ => 0))
  | 1 => (n, .inr (.inl (fun _ => 0)))
  | 2 => (n, .inl (fun _ => 0))
  | 3 => (n, .inl (fun _ => 0))
  | _ => (n, .inr (.inr (.inr (.inr (fun _ => none)))))
def ipElt (t : Nat) : Nat := match t with
  | 4 => 2
  | 5 => 6
  | 6 => 4
  | _ => 99
def ipArgs : List Value → ipV
  | [] => []
  | v :: vs => if v.category = 2 then some v :: none :: ipArgs vs else some v :: ipArgs vs
def ipIn (nL : Nat) (vs : List Value) : ipV := ipArgs vs ++ List.replicate (nL - (ipArgs vs).length) none

def ru_weak (sc : ipSc) (call : ipCall) (mid MC MS : Nat) (Q : ipQ) (I : ipI) : Prop := ∀ (pc : Nat) (lv : ipV) (st : List Value) (h : HP) (z c s : Nat) (lv2 : ipV), lv2.length = lv.length → (∀ (n : Nat) (v : Value), lv2[n]? = some (some v) → lv[n]? = some (some v)) → I pc lv2 st h z c s → I pc lv st h z c s
def ru_con (sc : ipSc) (call : ipCall) (mid MC MS : Nat) (Q : ipQ) (I : ipI) : Prop := ∀ (pc : Nat) (lv : ipV) (st : List Value) (h : HP) (z c s : Nat) (i : Instr) (len a b : Nat) (v : Value), ipAt mid pc = some (i, len, a, b) → ipCon i a = some v → I (pc + len) lv (v :: st) h z c s → I pc lv st h z c s
def ru_load (sc : ipSc) (call : ipCall) (mid MC MS : Nat) (Q : ipQ) (I : ipI) : Prop := ∀ (pc : Nat) (lv : ipV) (st : List Value) (h : HP) (z c s : Nat) (i : Instr) (len a b n : Nat) (v : Value), ipAt mid pc = some (i, len, a, b) → ipLd i v = some n → lv[n]? = some (some v) → I (pc + len) lv (v :: st) h z c s → I pc lv st h z c s
def ru_store (sc : ipSc) (call : ipCall) (mid MC MS : Nat) (Q : ipQ) (I : ipI) : Prop := ∀ (pc : Nat) (lv : ipV) (st : List Value) (h : HP) (z c s : Nat) (i : Instr) (len a b n : Nat) (v : Value), ipAt mid pc = some (i, len, a, b) → ipSto i v = some n → n + v.category ≤ lv.length → I (pc + len) (ipSet lv n v) st h z c s → I pc lv (v :: st) h z c s
def ru_iinc (sc : ipSc) (call : ipCall) (mid MC MS : Nat) (Q : ipQ) (I : ipI) : Prop := ∀ (pc : Nat) (lv : ipV) (st : List Value) (h : HP) (z c s : Nat) (n : Nat) (d : Int) (len a b : Nat) (x : Int32), ipAt mid pc = some (.iinc n d, len, a, b) → lv[n]? = some (some (.int x)) → I (pc + len) (ipSet lv n (.int (x + Int32.ofInt d))) st h z c s → I pc lv st h z c s
def ru_bin (sc : ipSc) (call : ipCall) (mid MC MS : Nat) (Q : ipQ) (I : ipI) : Prop := ∀ (pc : Nat) (lv : ipV) (st : List Value) (h : HP) (z c s : Nat) (i : Instr) (len a b : Nat) (x y v : Int32), ipAt mid pc = some (i, len, a, b) → ipBin i x y = some v → I (pc + len) lv (.int v :: st) h z c s → I pc lv (.int y :: .int x :: st) h z c s
def ru_lbin (sc : ipSc) (call : ipCall) (mid MC MS : Nat) (Q : ipQ) (I : ipI) : Prop := ∀ (pc : Nat) (lv : ipV) (st : List Value) (h : HP) (z c s : Nat) (i : Instr) (len a b : Nat) (x y v : Int64), ipAt mid pc = some (i, len, a, b) → ipLbin i x y = some v → I (pc + len) lv (.long v :: st) h z c s → I pc lv (.long y :: .long x :: st) h z c s
def ru_lsh (sc : ipSc) (call : ipCall) (mid MC MS : Nat) (Q : ipQ) (I : ipI) : Prop := ∀ (pc : Nat) (lv : ipV) (st : List Value) (h : HP) (z c s : Nat) (i : Instr) (len a b : Nat) (x : Int64) (y : Int32) (v : Int64), ipAt mid pc = some (i, len, a, b) → ipLsh i x y = some v → I (pc + len) lv (.long v :: st) h z c s → I pc lv (.int y :: .long x :: st) h z c s
def ru_cv (sc : ipSc) (call : ipCall) (mid MC MS : Nat) (Q : ipQ) (I : ipI) : Prop := ∀ (pc : Nat) (lv : ipV) (st : List Value) (h : HP) (z c s : Nat) (i : Instr) (len a b : Nat) (x v : Value), ipAt mid pc = some (i, len, a, b) → ipCv i x = some v → I (pc + len) lv (v :: st) h z c s → I pc lv (x :: st) h z c s
def ru_lcmp (sc : ipSc) (call : ipCall) (mid MC MS : Nat) (Q : ipQ) (I : ipI) : Prop := ∀ (pc : Nat) (lv : ipV) (st : List Value) (h : HP) (z c s : Nat) (len a b : Nat) (x y : Int64), ipAt mid pc = some (.lcmp, len, a, b) → I (pc + len) lv (.int (lg_cmp x y) :: st) h z c s → I pc lv (.long y :: .long x :: st) h z c s
def ru_icmp (sc : ipSc) (call : ipCall) (mid MC MS : Nat) (Q : ipQ) (I : ipI) : Prop := ∀ (pc : Nat) (lv : ipV) (st : List Value) (h : HP) (z c s : Nat) (cd : ClassFile.Cond) (off : Int) (len a b : Nat) (x y : Int32), ipAt mid pc = some (.if_icmp cd off, len, a, b) → (ipCmp cd x y → I a lv st h z c s) → (¬ ipCmp cd x y → I (pc + len) lv st h z c s) → I pc lv (.int y :: .int x :: st) h z c s
def ru_if0 (sc : ipSc) (call : ipCall) (mid MC MS : Nat) (Q : ipQ) (I : ipI) : Prop := ∀ (pc : Nat) (lv : ipV) (st : List Value) (h : HP) (z c s : Nat) (cd : ClassFile.Cond) (off : Int) (len a b : Nat) (x : Int32), ipAt mid pc = some (.ifCond cd off, len, a, b) → (ipCmp cd x 0 → I a lv st h z c s) → (¬ ipCmp cd x 0 → I (pc + len) lv st h z c s) → I pc lv (.int x :: st) h z c s
def ru_goto (sc : ipSc) (call : ipCall) (mid MC MS : Nat) (Q : ipQ) (I : ipI) : Prop := ∀ (pc : Nat) (lv : ipV) (st : List Value) (h : HP) (z c s : Nat) (off : Int) (len a b : Nat), ipAt mid pc = some (.goto off, len, a, b) → I a lv st h z c s → I pc lv st h z c s
def ru_tab (sc : ipSc) (call : ipCall) (mid MC MS : Nat) (Q : ipQ) (I : ipI) : Prop := ∀ (pc : Nat) (lv : ipV) (st : List Value) (h : HP) (z c s : Nat) (d lo hi : Int) (offs : Array Int) (len a b tgt : Nat) (x : Int32), ipAt mid pc = some (.tableswitch d lo hi offs, len, a, b) → ipTab pc d lo hi offs x = some tgt → I tgt lv st h z c s → I pc lv (.int x :: st) h z c s
def ru_nonnull (sc : ipSc) (call : ipCall) (mid MC MS : Nat) (Q : ipQ) (I : ipI) : Prop := ∀ (pc : Nat) (lv : ipV) (st : List Value) (h : HP) (z c s : Nat) (off : Int) (len a b r : Nat), ipAt mid pc = some (.ifnonnull off, len, a, b) → I a lv st h z c s → I pc lv (.ref r :: st) h z c s
def ru_isnull (sc : ipSc) (call : ipCall) (mid MC MS : Nat) (Q : ipQ) (I : ipI) : Prop := ∀ (pc : Nat) (lv : ipV) (st : List Value) (h : HP) (z c s : Nat) (off : Int) (len a b : Nat), ipAt mid pc = some (.ifnonnull off, len, a, b) → I (pc + len) lv st h z c s → I pc lv (.null :: st) h z c s
def ru_dup (sc : ipSc) (call : ipCall) (mid MC MS : Nat) (Q : ipQ) (I : ipI) : Prop := ∀ (pc : Nat) (lv : ipV) (st : List Value) (h : HP) (z c s : Nat) (len a b : Nat) (v : Value), ipAt mid pc = some (.dup, len, a, b) → v.category = 1 → I (pc + len) lv (v :: v :: st) h z c s → I pc lv (v :: st) h z c s
def ru_dup2 (sc : ipSc) (call : ipCall) (mid MC MS : Nat) (Q : ipQ) (I : ipI) : Prop := ∀ (pc : Nat) (lv : ipV) (st : List Value) (h : HP) (z c s : Nat) (len a b : Nat) (v w : Value), ipAt mid pc = some (.dup2, len, a, b) → v.category = 1 → w.category = 1 → I (pc + len) lv (v :: w :: v :: w :: st) h z c s → I pc lv (v :: w :: st) h z c s
def ru_pop (sc : ipSc) (call : ipCall) (mid MC MS : Nat) (Q : ipQ) (I : ipI) : Prop := ∀ (pc : Nat) (lv : ipV) (st : List Value) (h : HP) (z c s : Nat) (len a b : Nat) (v : Value), ipAt mid pc = some (.pop, len, a, b) → v.category = 1 → I (pc + len) lv st h z c s → I pc lv (v :: st) h z c s
def ru_getf (sc : ipSc) (call : ipCall) (mid MC MS : Nat) (Q : ipQ) (I : ipI) : Prop := ∀ (pc : Nat) (lv : ipV) (st : List Value) (h : HP) (z c s : Nat) (x len ci k r : Nat) (fs : List Value) (v : Value), ipAt mid pc = some (.getfield x, len, ci, k) → h r = some (.inr (ci, fs)) → fs[k]? = some v → I (pc + len) lv (v :: st) h z c s → I pc lv (.ref r :: st) h z c s
def ru_putf (sc : ipSc) (call : ipCall) (mid MC MS : Nat) (Q : ipQ) (I : ipI) : Prop := ∀ (pc : Nat) (lv : ipV) (st : List Value) (h : HP) (z c s : Nat) (x len ci k r : Nat) (fs : List Value) (v : Value), ipAt mid pc = some (.putfield x, len, ci, k) → h r = some (.inr (ci, fs)) → k < fs.length → ipFit ci k v → I (pc + len) lv st (hup h r (.inr (ci, fs.set k v))) z c s → I pc lv (v :: .ref r :: st) h z c s
def ru_iald (sc : ipSc) (call : ipCall) (mid MC MS : Nat) (Q : ipQ) (I : ipI) : Prop := ∀ (pc : Nat) (lv : ipV) (st : List Value) (h : HP) (z c s : Nat) (len a b r n : Nat) (f : Nat → Int32) (i : Int32), ipAt mid pc = some (.iaload, len, a, b) → h r = some (.inl (0, n, .inl f)) → vp_in i n → I (pc + len) lv (.int (f i.toNatClampNeg) :: st) h z c s → I pc lv (.int i :: .ref r :: st) h z c s
def ru_bald (sc : ipSc) (call : ipCall) (mid MC MS : Nat) (Q : ipQ) (I : ipI) : Prop := ∀ (pc : Nat) (lv : ipV) (st : List Value) (h : HP) (z c s : Nat) (len a b r n t : Nat) (f : Nat → Int32) (i : Int32), ipAt mid pc = some (.baload, len, a, b) → h r = some (.inl (t, n, .inl f)) → (t = 2 ∨ t = 3) → vp_in i n → I (pc + len) lv (.int (f i.toNatClampNeg) :: st) h z c s → I pc lv (.int i :: .ref r :: st) h z c s
def ru_lald (sc : ipSc) (call : ipCall) (mid MC MS : Nat) (Q : ipQ) (I : ipI) : Prop := ∀ (pc : Nat) (lv : ipV) (st : List Value) (h : HP) (z c s : Nat) (len a b r n : Nat) (f : Nat → Int64) (i : Int32), ipAt mid pc = some (.laload, len, a, b) → h r = some (.inl (1, n, .inr (.inl f))) → vp_in i n → I (pc + len) lv (.long (f i.toNatClampNeg) :: st) h z c s → I pc lv (.int i :: .ref r :: st) h z c s
def ru_aald (sc : ipSc) (call : ipCall) (mid MC MS : Nat) (Q : ipQ) (I : ipI) : Prop := ∀ (pc : Nat) (lv : ipV) (st : List Value) (h : HP) (z c s : Nat) (len a b r n t : Nat) (f : Nat → Option Nat) (i : Int32), ipAt mid pc = some (.aaload, len, a, b) → h r = some (.inl (t, n, .inr (.inr (.inr (.inr f))))) → (t = 4 ∨ t = 5 ∨ t = 6) → vp_in i n → I (pc + len) lv (va_rf (f i.toNatClampNeg) :: st) h z c s → I pc lv (.int i :: .ref r :: st) h z c s
def ru_sald (sc : ipSc) (call : ipCall) (mid MC MS : Nat) (Q : ipQ) (I : ipI) : Prop := ∀ (pc : Nat) (lv : ipV) (st : List Value) (h : HP) (z c s : Nat) (len a b : Nat) (i : Int32), ipAt mid pc = some (.iaload, len, a, b) → vp_in i sc.2.1 → I (pc + len) lv (.int (sc.2.2 i.toNatClampNeg) :: st) h z c s → I pc lv (.int i :: .ref sc.1 :: st) h z c s
def ru_alen (sc : ipSc) (call : ipCall) (mid MC MS : Nat) (Q : ipQ) (I : ipI) : Prop := ∀ (pc : Nat) (lv : ipV) (st : List Value) (h : HP) (z c s : Nat) (len a b r t : Nat) (x : vp_A), ipAt mid pc = some (.arraylength, len, a, b) → h r = some (.inl (t, x)) → t < 7 → I (pc + len) lv (.int (Int32.ofNat x.1) :: st) h z c s → I pc lv (.ref r :: st) h z c s
def ru_slen (sc : ipSc) (call : ipCall) (mid MC MS : Nat) (Q : ipQ) (I : ipI) : Prop := ∀ (pc : Nat) (lv : ipV) (st : List Value) (h : HP) (z c s : Nat) (len a b : Nat), ipAt mid pc = some (.arraylength, len, a, b) → I (pc + len) lv (.int (Int32.ofNat sc.2.1) :: st) h z c s → I pc lv (.ref sc.1 :: st) h z c s
def ru_iast (sc : ipSc) (call : ipCall) (mid MC MS : Nat) (Q : ipQ) (I : ipI) : Prop := ∀ (pc : Nat) (lv : ipV) (st : List Value) (h : HP) (z c s : Nat) (len a b r n : Nat) (f : Nat → Int32) (i x : Int32), ipAt mid pc = some (.iastore, len, a, b) → h r = some (.inl (0, n, .inl f)) → vp_in i n → I (pc + len) lv st (hup h r (.inl (0, n, .inl (upd f i.toNatClampNeg x)))) z c s → I pc lv (.int x :: .int i :: .ref r :: st) h z c s
def ru_bast (sc : ipSc) (call : ipCall) (mid MC MS : Nat) (Q : ipQ) (I : ipI) : Prop := ∀ (pc : Nat) (lv : ipV) (st : List Value) (h : HP) (z c s : Nat) (len a b r n : Nat) (f : Nat → Int32) (i x : Int32), ipAt mid pc = some (.bastore, len, a, b) → h r = some (.inl (2, n, .inl f)) → vp_in i n → I (pc + len) lv st (hup h r (.inl (2, n, .inl (upd f i.toNatClampNeg (vp_nar .byte x))))) z c s → I pc lv (.int x :: .int i :: .ref r :: st) h z c s
def ru_zast (sc : ipSc) (call : ipCall) (mid MC MS : Nat) (Q : ipQ) (I : ipI) : Prop := ∀ (pc : Nat) (lv : ipV) (st : List Value) (h : HP) (z c s : Nat) (len a b r n : Nat) (f : Nat → Int32) (i x : Int32), ipAt mid pc = some (.bastore, len, a, b) → h r = some (.inl (3, n, .inl f)) → vp_in i n → I (pc + len) lv st (hup h r (.inl (3, n, .inl (upd f i.toNatClampNeg (vp_nar .boolean x))))) z c s → I pc lv (.int x :: .int i :: .ref r :: st) h z c s
def ru_last (sc : ipSc) (call : ipCall) (mid MC MS : Nat) (Q : ipQ) (I : ipI) : Prop := ∀ (pc : Nat) (lv : ipV) (st : List Value) (h : HP) (z c s : Nat) (len a b r n : Nat) (f : Nat → Int64) (i : Int32) (x : Int64), ipAt mid pc = some (.lastore, len, a, b) → h r = some (.inl (1, n, .inr (.inl f))) → vp_in i n → I (pc + len) lv st (hup h r (.inl (1, n, .inr (.inl (vp_updL f i.toNatClampNeg x))))) z c s → I pc lv (.long x :: .int i :: .ref r :: st) h z c s
def ru_aast (sc : ipSc) (call : ipCall) (mid MC MS : Nat) (Q : ipQ) (I : ipI) : Prop := ∀ (pc : Nat) (lv : ipV) (st : List Value) (h : HP) (z c s : Nat) (len a b r n t v : Nat) (vs : List Value) (f : Nat → Option Nat) (i : Int32), ipAt mid pc = some (.aastore, len, a, b) → h r = some (.inl (t, n, .inr (.inr (.inr (.inr f))))) → (t = 4 ∨ t = 5 ∨ t = 6) → h v = some (.inr (ipElt t, vs)) → vp_in i n → I (pc + len) lv st (hup h r (.inl (t, n, .inr (.inr (.inr (.inr (va_up f i.toNatClampNeg (some v)))))))) z c s → I pc lv (.ref v :: .int i :: .ref r :: st) h z c s
def ru_new (sc : ipSc) (call : ipCall) (mid MC MS : Nat) (Q : ipQ) (I : ipI) : Prop := ∀ (pc : Nat) (lv : ipV) (st : List Value) (h : HP) (z c s : Nat) (x len ci b : Nat), ipAt mid pc = some (.new x, len, ci, b) → c + 1 ≤ MC → s + ipN ci ≤ MS → I (pc + len) lv (.ref z :: st) (hup h z (.inr (ci, ipDef ci))) (z + 1) (c + 1) (s + ipN ci) → I pc lv st h z c s
def ru_newa (sc : ipSc) (call : ipCall) (mid MC MS : Nat) (Q : ipQ) (I : ipI) : Prop := ∀ (pc : Nat) (lv : ipV) (st : List Value) (h : HP) (z c s : Nat) (at0 : ArrayType) (len t b N : Nat) (n : Int32), ipAt mid pc = some (.newarray at0, len, t, b) → ¬ n < 0 → n.toNatClampNeg = N → N * 8 ≤ 536870912 → c + 1 ≤ MC → s + N ≤ MS → I (pc + len) lv (.ref z :: st) (hup h z (.inl (t, ipArr t N))) (z + 1) (c + 1) (s + N) → I pc lv (.int n :: st) h z c s
def ru_newq (sc : ipSc) (call : ipCall) (mid MC MS : Nat) (Q : ipQ) (I : ipI) : Prop := ∀ (pc : Nat) (lv : ipV) (st : List Value) (h : HP) (z c s : Nat) (x len t b N : Nat) (n : Int32), ipAt mid pc = some (.anewarray x, len, t, b) → ¬ n < 0 → n.toNatClampNeg = N → N * 8 ≤ 536870912 → c + 1 ≤ MC → s + N ≤ MS → I (pc + len) lv (.ref z :: st) (hup h z (.inl (t, N, .inr (.inr (.inr (.inr (fun _ => none))))))) (z + 1) (c + 1) (s + N) → I pc lv (.int n :: st) h z c s
def ru_iret (sc : ipSc) (call : ipCall) (mid MC MS : Nat) (Q : ipQ) (I : ipI) : Prop := ∀ (pc : Nat) (lv : ipV) (st : List Value) (h : HP) (z c s : Nat) (len a b : Nat) (v : Int32) (ty : FieldType), ipAt mid pc = some (.ireturn, len, a, b) → ipR mid = some ty → narrow ty (.int v) = .int v → Q (some (.int v)) h z → I pc lv [.int v] h z c s
def ru_vret (sc : ipSc) (call : ipCall) (mid MC MS : Nat) (Q : ipQ) (I : ipI) : Prop := ∀ (pc : Nat) (lv : ipV) (st : List Value) (h : HP) (z c s : Nat) (len a b : Nat), ipAt mid pc = some (.return_, len, a, b) → ipR mid = none → Q none h z → I pc lv [] h z c s
def ru_aret (sc : ipSc) (call : ipCall) (mid MC MS : Nat) (Q : ipQ) (I : ipI) : Prop := ∀ (pc : Nat) (lv : ipV) (st : List Value) (h : HP) (z c s : Nat) (len a b r : Nat) (o : String), ipAt mid pc = some (.areturn, len, a, b) → ipR mid = some (.object o) → Q (some (.ref r)) h z → I pc lv [.ref r] h z c s
def ru_virt (sc : ipSc) (call : ipCall) (mid MC MS : Nat) (Q : ipQ) (I : ipI) : Prop := ∀ (pc : Nat) (lv : ipV) (st : List Value) (h : HP) (z c s : Nat) (x len md n r mc ms : Nat) (fs : List Value) (As rest : List Value) (P : ipQ), ipAt mid pc = some (.invokevirtual x, len, md, n) → As.length = n → (rest.map fun v => v.category).sum ≤ 8 → h r = some (.inr (ipO md, fs)) → c + mc ≤ MC → s + ms ≤ MS → call md (.ref r :: As) h z mc ms P → st = As.reverse ++ .ref r :: rest → (∀ (o : Option Value) (h2 : HP) (z2 : Nat), P o h2 z2 → I (pc + len) lv (o.toList ++ rest) h2 z2 (c + mc) (s + ms)) → I pc lv st h z c s
def ru_spec (sc : ipSc) (call : ipCall) (mid MC MS : Nat) (Q : ipQ) (I : ipI) : Prop := ∀ (pc : Nat) (lv : ipV) (st : List Value) (h : HP) (z c s : Nat) (x len md n r mc ms : Nat) (As rest : List Value) (P : ipQ), ipAt mid pc = some (.invokespecial x, len, md, n) → As.length = n → (rest.map fun v => v.category).sum ≤ 8 → c + mc ≤ MC → s + ms ≤ MS → md < 999 → call md (.ref r :: As) h z mc ms P → st = As.reverse ++ .ref r :: rest → (∀ (o : Option Value) (h2 : HP) (z2 : Nat), P o h2 z2 → I (pc + len) lv (o.toList ++ rest) h2 z2 (c + mc) (s + ms)) → I pc lv st h z c s
def ru_stat (sc : ipSc) (call : ipCall) (mid MC MS : Nat) (Q : ipQ) (I : ipI) : Prop := ∀ (pc : Nat) (lv : ipV) (st : List Value) (h : HP) (z c s : Nat) (x len md n mc ms : Nat) (As rest : List Value) (P : ipQ), ipAt mid pc = some (.invokestatic x, len, md, n) → As.length = n → (rest.map fun v => v.category).sum ≤ 8 → c + mc ≤ MC → s + ms ≤ MS → md < 998 → call md As h z mc ms P → st = As.reverse ++ rest → (∀ (o : Option Value) (h2 : HP) (z2 : Nat), P o h2 z2 → I (pc + len) lv (o.toList ++ rest) h2 z2 (c + mc) (s + ms)) → I pc lv st h z c s
def ru_objinit (sc : ipSc) (call : ipCall) (mid MC MS : Nat) (Q : ipQ) (I : ipI) : Prop := ∀ (pc : Nat) (lv : ipV) (st : List Value) (h : HP) (z c s : Nat) (x len b r : Nat), ipAt mid pc = some (.invokespecial x, len, 999, b) → (st.map fun v => v.category).sum ≤ 8 → I (pc + len) lv st h z c s → I pc lv (.ref r :: st) h z c s
def ru_copy (sc : ipSc) (call : ipCall) (mid MC MS : Nat) (Q : ipQ) (I : ipI) : Prop := ∀ (pc : Nat) (lv : ipV) (st : List Value) (h : HP) (z c s : Nat) (x len b r0 r1 n0 n1 : Nat) (f g : Nat → Int32) (sp dp n : Int32), ipAt mid pc = some (.invokestatic x, len, 998, b) → (st.map fun v => v.category).sum ≤ 8 → h r0 = some (.inl (0, n0, .inl f)) → h r1 = some (.inl (0, n1, .inl g)) → ¬ sp < 0 → ¬ dp < 0 → ¬ n < 0 → sp.toNatClampNeg + n.toNatClampNeg ≤ n0 → dp.toNatClampNeg + n.toNatClampNeg ≤ n1 → r0 ≠ r1 → I (pc + len) lv st (hup h r1 (.inl (0, n1, .inl (va_cpy f g sp.toNatClampNeg dp.toNatClampNeg n.toNatClampNeg)))) z c s → I pc lv (.int n :: .int dp :: .ref r1 :: .int sp :: .ref r0 :: st) h z c s
def ipClosed (sc : ipSc) (call : ipCall) (mid MC MS : Nat) (Q : ipQ) (I : ipI) : Prop := ru_weak sc call mid MC MS Q I ∧ ru_con sc call mid MC MS Q I ∧ ru_load sc call mid MC MS Q I ∧ ru_store sc call mid MC MS Q I ∧ ru_iinc sc call mid MC MS Q I ∧ ru_bin sc call mid MC MS Q I ∧ ru_lbin sc call mid MC MS Q I ∧ ru_lsh sc call mid MC MS Q I ∧ ru_cv sc call mid MC MS Q I ∧ ru_lcmp sc call mid MC MS Q I ∧ ru_icmp sc call mid MC MS Q I ∧ ru_if0 sc call mid MC MS Q I ∧ ru_goto sc call mid MC MS Q I ∧ ru_tab sc call mid MC MS Q I ∧ ru_nonnull sc call mid MC MS Q I ∧ ru_isnull sc call mid MC MS Q I ∧ ru_dup sc call mid MC MS Q I ∧ ru_dup2 sc call mid MC MS Q I ∧ ru_pop sc call mid MC MS Q I ∧ ru_getf sc call mid MC MS Q I ∧ ru_putf sc call mid MC MS Q I ∧ ru_iald sc call mid MC MS Q I ∧ ru_bald sc call mid MC MS Q I ∧ ru_lald sc call mid MC MS Q I ∧ ru_aald sc call mid MC MS Q I ∧ ru_sald sc call mid MC MS Q I ∧ ru_alen sc call mid MC MS Q I ∧ ru_slen sc call mid MC MS Q I ∧ ru_iast sc call mid MC MS Q I ∧ ru_bast sc call mid MC MS Q I ∧ ru_zast sc call mid MC MS Q I ∧ ru_last sc call mid MC MS Q I ∧ ru_aast sc call mid MC MS Q I ∧ ru_new sc call mid MC MS Q I ∧ ru_newa sc call mid MC MS Q I ∧ ru_newq sc call mid MC MS Q I ∧ ru_iret sc call mid MC MS Q I ∧ ru_vret sc call mid MC MS Q I ∧ ru_aret sc call mid MC MS Q I ∧ ru_virt sc call mid MC MS Q I ∧ ru_spec sc call mid MC MS Q I ∧ ru_stat sc call mid MC MS Q I ∧ ru_objinit sc call mid MC MS Q I ∧ ru_copy sc call mid MC MS Q I
def ip (sc : ipSc) (call : ipCall) (mid MC MS : Nat) (Q : ipQ) : ipI := fun pc lv st h z c s => ∀ I : ipI, ipClosed sc call mid MC MS Q I → I pc lv st h z c s
section IPR
variable {sc : ipSc} {call : ipCall} {mid MC MS : Nat} {Q : ipQ}
theorem ip_weak {pc : Nat} {lv : ipV} {st : List Value} {h : HP} {z c s : Nat} {lv2 : ipV} (h0 : lv2.length = lv.length) (h1 : (∀ (n : Nat) (v : Value), lv2[n]? = some (some v) → lv[n]? = some (some v))) (h2 : ip sc call mid MC MS Q pc lv2 st h z c s) : ip sc call mid MC MS Q pc lv st h z c s := fun I hI => hI.1 pc lv st h z c s lv2 h0 h1 (h2 I hI)
theorem ip_con {pc : Nat} {lv : ipV} {st : List Value} {h : HP} {z c s : Nat} {i : Instr} {len a b : Nat} {v : Value} (h0 : ipAt mid pc = some (i, len, a, b)) (h1 : ipCon i a = some v) (h2 : ip sc call mid MC MS Q (pc + len) lv (v :: st) h z c s) : ip sc call mid MC MS Q pc lv st h z c s := fun I hI => hI.2.1 pc lv st h z c s i len a b v h0 h1 (h2 I hI)
theorem ip_load {pc : Nat} {lv : ipV} {st : List Value} {h : HP} {z c s : Nat} {i : Instr} {len a b n : Nat} {v : Value} (h0 : ipAt mid pc = some (i, len, a, b)) (h1 : ipLd i v = some n) (h2 : lv[n]? = some (some v)) (h3 : ip sc call mid MC MS Q (pc + len) lv (v :: st) h z c s) : ip sc call mid MC MS Q pc lv st h z c s := fun I hI => hI.2.2.1 pc lv st h z c s i len a b n v h0 h1 h2 (h3 I hI)
theorem ip_store {pc : Nat} {lv : ipV} {st : List Value} {h : HP} {z c s : Nat} {i : Instr} {len a b n : Nat} {v : Value} (h0 : ipAt mid pc = some (i, len, a, b)) (h1 : ipSto i v = some n) (h2 : n + v.category ≤ lv.length) (h3 : ip sc call mid MC MS Q (pc + len) (ipSet lv n v) st h z c s) : ip sc call mid MC MS Q pc lv (v :: st) h z c s := fun I hI => hI.2.2.2.1 pc lv st h z c s i len a b n v h0 h1 h2 (h3 I hI)
theorem ip_iinc {pc : Nat} {lv : ipV} {st : List Value} {h : HP} {z c s : Nat} {n : Nat} {d : Int} {len a b : Nat} {x : Int32} (h0 : ipAt mid pc = some (.iinc n d, len, a, b)) (h1 : lv[n]? = some (some (.int x))) (h2 : ip sc call mid MC MS Q (pc + len) (ipSet lv n (.int (x + Int32.ofInt d))) st h z c s) : ip sc call mid MC MS Q pc lv st h z c s := fun I hI => hI.2.2.2.2.1 pc lv st h z c s n d len a b x h0 h1 (h2 I hI)
theorem ip_bin {pc : Nat} {lv : ipV} {st : List Value} {h : HP} {z c s : Nat} {i : Instr} {len a b : Nat} {x y v : Int32} (h0 : ipAt mid pc = some (i, len, a, b)) (h1 : ipBin i x y = some v) (h2 : ip sc call mid MC MS Q (pc + len) lv (.int v :: st) h z c s) : ip sc call mid MC MS Q pc lv (.int y :: .int x :: st) h z c s := fun I hI => hI.2.2.2.2.2.1 pc lv st h z c s i len a b x y v h0 h1 (h2 I hI)
theorem ip_lbin {pc : Nat} {lv : ipV} {st : List Value} {h : HP} {z c s : Nat} {i : Instr} {len a b : Nat} {x y v : Int64} (h0 : ipAt mid pc = some (i, len, a, b)) (h1 : ipLbin i x y = some v) (h2 : ip sc call mid MC MS Q (pc + len) lv (.long v :: st) h z c s) : ip sc call mid MC MS Q pc lv (.long y :: .long x :: st) h z c s := fun I hI => hI.2.2.2.2.2.2.1 pc lv st h z c s i len a b x y v h0 h1 (h2 I hI)
theorem ip_lsh {pc : Nat} {lv : ipV} {st : List Value} {h : HP} {z c s : Nat} {i : Instr} {len a b : Nat} {x : Int64} {y : Int32} {v : Int64} (h0 : ipAt mid pc = some (i, len, a, b)) (h1 : ipLsh i x y = some v) (h2 : ip sc call mid MC MS Q (pc + len) lv (.long v :: st) h z c s) : ip sc call mid MC MS Q pc lv (.int y :: .long x :: st) h z c s := fun I hI => hI.2.2.2.2.2.2.2.1 pc lv st h z c s i len a b x y v h0 h1 (h2 I hI)
theorem ip_cv {pc : Nat} {lv : ipV} {st : List Value} {h : HP} {z c s : Nat} {i : Instr} {len a b : Nat} {x v : Value} (h0 : ipAt mid pc = some (i, len, a, b)) (h1 : ipCv i x = some v) (h2 : ip sc call mid MC MS Q (pc + len) lv (v :: st) h z c s) : ip sc call mid MC MS Q pc lv (x :: st) h z c s := fun I hI => hI.2.2.2.2.2.2.2.2.1 pc lv st h z c s i len a b x v h0 h1 (h2 I hI)
theorem ip_lcmp {pc : Nat} {lv : ipV} {st : List Value} {h : HP} {z c s : Nat} {len a b : Nat} {x y : Int64} (h0 : ipAt mid pc = some (.lcmp, len, a, b)) (h1 : ip sc call mid MC MS Q (pc + len) lv (.int (lg_cmp x y) :: st) h z c s) : ip sc call mid MC MS Q pc lv (.long y :: .long x :: st) h z c s := fun I hI => hI.2.2.2.2.2.2.2.2.2.1 pc lv st h z c s len a b x y h0 (h1 I hI)
theorem ip_icmp {pc : Nat} {lv : ipV} {st : List Value} {h : HP} {z c s : Nat} {cd : ClassFile.Cond} {off : Int} {len a b : Nat} {x y : Int32} (h0 : ipAt mid pc = some (.if_icmp cd off, len, a, b)) (h1 : (ipCmp cd x y → ip sc call mid MC MS Q a lv st h z c s)) (h2 : (¬ ipCmp cd x y → ip sc call mid MC MS Q (pc + len) lv st h z c s)) : ip sc call mid MC MS Q pc lv (.int y :: .int x :: st) h z c s := fun I hI => hI.2.2.2.2.2.2.2.2.2.2.1 pc lv st h z c s cd off len a b x y h0 (fun q => h1 q I hI) (fun q => h2 q I hI)
theorem ip_if0 {pc : Nat} {lv : ipV} {st : List Value} {h : HP} {z c s : Nat} {cd : ClassFile.Cond} {off : Int} {len a b : Nat} {x : Int32} (h0 : ipAt mid pc = some (.ifCond cd off, len, a, b)) (h1 : (ipCmp cd x 0 → ip sc call mid MC MS Q a lv st h z c s)) (h2 : (¬ ipCmp cd x 0 → ip sc call mid MC MS Q (pc + len) lv st h z c s)) : ip sc call mid MC MS Q pc lv (.int x :: st) h z c s := fun I hI => hI.2.2.2.2.2.2.2.2.2.2.2.1 pc lv st h z c s cd off len a b x h0 (fun q => h1 q I hI) (fun q => h2 q I hI)
theorem ip_goto {pc : Nat} {lv : ipV} {st : List Value} {h : HP} {z c s : Nat} {off : Int} {len a b : Nat} (h0 : ipAt mid pc = some (.goto off, len, a, b)) (h1 : ip sc call mid MC MS Q a lv st h z c s) : ip sc call mid MC MS Q pc lv st h z c s := fun I hI => hI.2.2.2.2.2.2.2.2.2.2.2.2.1 pc lv st h z c s off len a b h0 (h1 I hI)
theorem ip_tab {pc : Nat} {lv : ipV} {st : List Value} {h : HP} {z c s : Nat} {d lo hi : Int} {offs : Array Int} {len a b tgt : Nat} {x : Int32} (h0 : ipAt mid pc = some (.tableswitch d lo hi offs, len, a, b)) (h1 : ipTab pc d lo hi offs x = some tgt) (h2 : ip sc call mid MC MS Q tgt lv st h z c s) : ip sc call mid MC MS Q pc lv (.int x :: st) h z c s := fun I hI => hI.2.2.2.2.2.2.2.2.2.2.2.2.2.1 pc lv st h z c s d lo hi offs len a b tgt x h0 h1 (h2 I hI)
theorem ip_nonnull {pc : Nat} {lv : ipV} {st : List Value} {h : HP} {z c s : Nat} {off : Int} {len a b r : Nat} (h0 : ipAt mid pc = some (.ifnonnull off, len, a, b)) (h1 : ip sc call mid MC MS Q a lv st h z c s) : ip sc call mid MC MS Q pc lv (.ref r :: st) h z c s := fun I hI => hI.2.2.2.2.2.2.2.2.2.2.2.2.2.2.1 pc lv st h z c s off len a b r h0 (h1 I hI)
theorem ip_isnull {pc : Nat} {lv : ipV} {st : List Value} {h : HP} {z c s : Nat} {off : Int} {len a b : Nat} (h0 : ipAt mid pc = some (.ifnonnull off, len, a, b)) (h1 : ip sc call mid MC MS Q (pc + len) lv st h z c s) : ip sc call mid MC MS Q pc lv (.null :: st) h z c s := fun I hI => hI.2.2.2.2.2.2.2.2.2.2.2.2.2.2.2.1 pc lv st h z c s off len a b h0 (h1 I hI)
theorem ip_dup {pc : Nat} {lv : ipV} {st : List Value} {h : HP} {z c s : Nat} {len a b : Nat} {v : Value} (h0 : ipAt mid pc = some (.dup, len, a, b)) (h1 : v.category = 1) (h2 : ip sc call mid MC MS Q (pc + len) lv (v :: v :: st) h z c s) : ip sc call mid MC MS Q pc lv (v :: st) h z c s := fun I hI => hI.2.2.2.2.2.2.2.2.2.2.2.2.2.2.2.2.1 pc lv st h z c s len a b v h0 h1 (h2 I hI)
theorem ip_dup2 {pc : Nat} {lv : ipV} {st : List Value} {h : HP} {z c s : Nat} {len a b : Nat} {v w : Value} (h0 : ipAt mid pc = some (.dup2, len, a, b)) (h1 : v.category = 1) (h2 : w.category = 1) (h3 : ip sc call mid MC MS Q (pc + len) lv (v :: w :: v :: w :: st) h z c s) : ip sc call mid MC MS Q pc lv (v :: w :: st) h z c s := fun I hI => hI.2.2.2.2.2.2.2.2.2.2.2.2.2.2.2.2.2.1 pc lv st h z c s len a b v w h0 h1 h2 (h3 I hI)
theorem ip_pop {pc : Nat} {lv : ipV} {st : List Value} {h : HP} {z c s : Nat} {len a b : Nat} {v : Value} (h0 : ipAt mid pc = some (.pop, len, a, b)) (h1 : v.category = 1) (h2 : ip sc call mid MC MS Q (pc + len) lv st h z c s) : ip sc call mid MC MS Q pc lv (v :: st) h z c s := fun I hI => hI.2.2.2.2.2.2.2.2.2.2.2.2.2.2.2.2.2.2.1 pc lv st h z c s len a b v h0 h1 (h2 I hI)
theorem ip_getf {pc : Nat} {lv : ipV} {st : List Value} {h : HP} {z c s : Nat} {x len ci k r : Nat} {fs : List Value} {v : Value} (h0 : ipAt mid pc = some (.getfield x, len, ci, k)) (h1 : h r = some (.inr (ci, fs))) (h2 : fs[k]? = some v) (h3 : ip sc call mid MC MS Q (pc + len) lv (v :: st) h z c s) : ip sc call mid MC MS Q pc lv (.ref r :: st) h z c s := fun I hI => hI.2.2.2.2.2.2.2.2.2.2.2.2.2.2.2.2.2.2.2.1 pc lv st h z c s x len ci k r fs v h0 h1 h2 (h3 I hI)
theorem ip_putf {pc : Nat} {lv : ipV} {st : List Value} {h : HP} {z c s : Nat} {x len ci k r : Nat} {fs : List Value} {v : Value} (h0 : ipAt mid pc = some (.putfield x, len, ci, k)) (h1 : h r = some (.inr (ci, fs))) (h2 : k < fs.length) (h3 : ipFit ci k v) (h4 : ip sc call mid MC MS Q (pc + len) lv st (hup h r (.inr (ci, fs.set k v))) z c s) : ip sc call mid MC MS Q pc lv (v :: .ref r :: st) h z c s := fun I hI => hI.2.2.2.2.2.2.2.2.2.2.2.2.2.2.2.2.2.2.2.2.1 pc lv st h z c s x len ci k r fs v h0 h1 h2 h3 (h4 I hI)
theorem ip_iald {pc : Nat} {lv : ipV} {st : List Value} {h : HP} {z c s : Nat} {len a b r n : Nat} {f : Nat → Int32} {i : Int32} (h0 : ipAt mid pc = some (.iaload, len, a, b)) (h1 : h r = some (.inl (0, n, .inl f))) (h2 : vp_in i n) (h3 : ip sc call mid MC MS Q (pc + len) lv (.int (f i.toNatClampNeg) :: st) h z c s) : ip sc call mid MC MS Q pc lv (.int i :: .ref r :: st) h z c s := fun I hI => hI.2.2.2.2.2.2.2.2.2.2.2.2.2.2.2.2.2.2.2.2.2.1 pc lv st h z c s len a b r n f i h0 h1 h2 (h3 I hI)
theorem ip_bald {pc : Nat} {lv : ipV} {st : List Value} {h : HP} {z c s : Nat} {len a b r n t : Nat} {f : Nat → Int32} {i : Int32} (h0 : ipAt mid pc = some (.baload, len, a, b)) (h1 : h r = some (.inl (t, n, .inl f))) (h2 : (t = 2 ∨ t = 3)) (h3 : vp_in i n) (h4 : ip sc call mid MC MS Q (pc + len) lv (.int (f i.toNatClampNeg) :: st) h z c s) : ip sc call mid MC MS Q pc lv (.int i :: .ref r :: st) h z c s := fun I hI => hI.2.2.2.2.2.2.2.2.2.2.2.2.2.2.2.2.2.2.2.2.2.2.1 pc lv st h z c s len a b r n t f i h0 h1 h2 h3 (h4 I hI)
theorem ip_lald {pc : Nat} {lv : ipV} {st : List Value} {h : HP} {z c s : Nat} {len a b r n : Nat} {f : Nat → Int64} {i : Int32} (h0 : ipAt mid pc = some (.laload, len, a, b)) (h1 : h r = some (.inl (1, n, .inr (.inl f)))) (h2 : vp_in i n) (h3 : ip sc call mid MC MS Q (pc + len) lv (.long (f i.toNatClampNeg) :: st) h z c s) : ip sc call mid MC MS Q pc lv (.int i :: .ref r :: st) h z c s := fun I hI => hI.2.2.2.2.2.2.2.2.2.2.2.2.2.2.2.2.2.2.2.2.2.2.2.1 pc lv st h z c s len a b r n f i h0 h1 h2 (h3 I hI)
theorem ip_aald {pc : Nat} {lv : ipV} {st : List Value} {h : HP} {z c s : Nat} {len a b r n t : Nat} {f : Nat → Option Nat} {i : Int32} (h0 : ipAt mid pc = some (.aaload, len, a, b)) (h1 : h r = some (.inl (t, n, .inr (.inr (.inr (.inr f)))))) (h2 : (t = 4 ∨ t = 5 ∨ t = 6)) (h3 : vp_in i n) (h4 : ip sc call mid MC MS Q (pc + len) lv (va_rf (f i.toNatClampNeg) :: st) h z c s) : ip sc call mid MC MS Q pc lv (.int i :: .ref r :: st) h z c s := fun I hI => hI.2.2.2.2.2.2.2.2.2.2.2.2.2.2.2.2.2.2.2.2.2.2.2.2.1 pc lv st h z c s len a b r n t f i h0 h1 h2 h3 (h4 I hI)
theorem ip_sald {pc : Nat} {lv : ipV} {st : List Value} {h : HP} {z c s : Nat} {len a b : Nat} {i : Int32} (h0 : ipAt mid pc = some (.iaload, len, a, b)) (h1 : vp_in i sc.2.1) (h2 : ip sc call mid MC MS Q (pc + len) lv (.int (sc.2.2 i.toNatClampNeg) :: st) h z c s) : ip sc call mid MC MS Q pc lv (.int i :: .ref sc.1 :: st) h z c s := fun I hI => hI.2.2.2.2.2.2.2.2.2.2.2.2.2.2.2.2.2.2.2.2.2.2.2.2.2.1 pc lv st h z c s len a b i h0 h1 (h2 I hI)
theorem ip_alen {pc : Nat} {lv : ipV} {st : List Value} {h : HP} {z c s : Nat} {len a b r t : Nat} {x : vp_A} (h0 : ipAt mid pc = some (.arraylength, len, a, b)) (h1 : h r = some (.inl (t, x))) (h2 : t < 7) (h3 : ip sc call mid MC MS Q (pc + len) lv (.int (Int32.ofNat x.1) :: st) h z c s) : ip sc call mid MC MS Q pc lv (.ref r :: st) h z c s := fun I hI => hI.2.2.2.2.2.2.2.2.2.2.2.2.2.2.2.2.2.2.2.2.2.2.2.2.2.2.1 pc lv st h z c s len a b r t x h0 h1 h2 (h3 I hI)
theorem ip_slen {pc : Nat} {lv : ipV} {st : List Value} {h : HP} {z c s : Nat} {len a b : Nat} (h0 : ipAt mid pc = some (.arraylength, len, a, b)) (h1 : ip sc call mid MC MS Q (pc + len) lv (.int (Int32.ofNat sc.2.1) :: st) h z c s) : ip sc call mid MC MS Q pc lv (.ref sc.1 :: st) h z c s := fun I hI => hI.2.2.2.2.2.2.2.2.2.2.2.2.2.2.2.2.2.2.2.2.2.2.2.2.2.2.2.1 pc lv st h z c s len a b h0 (h1 I hI)
theorem ip_iast {pc : Nat} {lv : ipV} {st : List Value} {h : HP} {z c s : Nat} {len a b r n : Nat} {f : Nat → Int32} {i x : Int32} (h0 : ipAt mid pc = some (.iastore, len, a, b)) (h1 : h r = some (.inl (0, n, .inl f))) (h2 : vp_in i n) (h3 : ip sc call mid MC MS Q (pc + len) lv st (hup h r (.inl (0, n, .inl (upd f i.toNatClampNeg x)))) z c s) : ip sc call mid MC MS Q pc lv (.int x :: .int i :: .ref r :: st) h z c s := fun I hI => hI.2.2.2.2.2.2.2.2.2.2.2.2.2.2.2.2.2.2.2.2.2.2.2.2.2.2.2.2.1 pc lv st h z c s len a b r n f i x h0 h1 h2 (h3 I hI)
theorem ip_bast {pc : Nat} {lv : ipV} {st : List Value} {h : HP} {z c s : Nat} {len a b r n : Nat} {f : Nat → Int32} {i x : Int32} (h0 : ipAt mid pc = some (.bastore, len, a, b)) (h1 : h r = some (.inl (2, n, .inl f))) (h2 : vp_in i n) (h3 : ip sc call mid MC MS Q (pc + len) lv st (hup h r (.inl (2, n, .inl (upd f i.toNatClampNeg (vp_nar .byte x))))) z c s) : ip sc call mid MC MS Q pc lv (.int x :: .int i :: .ref r :: st) h z c s := fun I hI => hI.2.2.2.2.2.2.2.2.2.2.2.2.2.2.2.2.2.2.2.2.2.2.2.2.2.2.2.2.2.1 pc lv st h z c s len a b r n f i x h0 h1 h2 (h3 I hI)
theorem ip_zast {pc : Nat} {lv : ipV} {st : List Value} {h : HP} {z c s : Nat} {len a b r n : Nat} {f : Nat → Int32} {i x : Int32} (h0 : ipAt mid pc = some (.bastore, len, a, b)) (h1 : h r = some (.inl (3, n, .inl f))) (h2 : vp_in i n) (h3 : ip sc call mid MC MS Q (pc + len) lv st (hup h r (.inl (3, n, .inl (upd f i.toNatClampNeg (vp_nar .boolean x))))) z c s) : ip sc call mid MC MS Q pc lv (.int x :: .int i :: .ref r :: st) h z c s := fun I hI => hI.2.2.2.2.2.2.2.2.2.2.2.2.2.2.2.2.2.2.2.2.2.2.2.2.2.2.2.2.2.2.1 pc lv st h z c s len a b r n f i x h0 h1 h2 (h3 I hI)
theorem ip_last {pc : Nat} {lv : ipV} {st : List Value} {h : HP} {z c s : Nat} {len a b r n : Nat} {f : Nat → Int64} {i : Int32} {x : Int64} (h0 : ipAt mid pc = some (.lastore, len, a, b)) (h1 : h r = some (.inl (1, n, .inr (.inl f)))) (h2 : vp_in i n) (h3 : ip sc call mid MC MS Q (pc + len) lv st (hup h r (.inl (1, n, .inr (.inl (vp_updL f i.toNatClampNeg x))))) z c s) : ip sc call mid MC MS Q pc lv (.long x :: .int i :: .ref r :: st) h z c s := fun I hI => hI.2.2.2.2.2.2.2.2.2.2.2.2.2.2.2.2.2.2.2.2.2.2.2.2.2.2.2.2.2.2.2.1 pc lv st h z c s len a b r n f i x h0 h1 h2 (h3 I hI)
theorem ip_aast {pc : Nat} {lv : ipV} {st : List Value} {h : HP} {z c s : Nat} {len a b r n t v : Nat} {vs : List Value} {f : Nat → Option Nat} {i : Int32} (h0 : ipAt mid pc = some (.aastore, len, a, b)) (h1 : h r = some (.inl (t, n, .inr (.inr (.inr (.inr f)))))) (h2 : (t = 4 ∨ t = 5 ∨ t = 6)) (h3 : h v = some (.inr (ipElt t, vs))) (h4 : vp_in i n) (h5 : ip sc call mid MC MS Q (pc + len) lv st (hup h r (.inl (t, n, .inr (.inr (.inr (.inr (va_up f i.toNatClampNeg (some v)))))))) z c s) : ip sc call mid MC MS Q pc lv (.ref v :: .int i :: .ref r :: st) h z c s := fun I hI => hI.2.2.2.2.2.2.2.2.2.2.2.2.2.2.2.2.2.2.2.2.2.2.2.2.2.2.2.2.2.2.2.2.1 pc lv st h z c s len a b r n t v vs f i h0 h1 h2 h3 h4 (h5 I hI)
theorem ip_new {pc : Nat} {lv : ipV} {st : List Value} {h : HP} {z c s : Nat} {x len ci b : Nat} (h0 : ipAt mid pc = some (.new x, len, ci, b)) (h1 : c + 1 ≤ MC) (h2 : s + ipN ci ≤ MS) (h3 : ip sc call mid MC MS Q (pc + len) lv (.ref z :: st) (hup h z (.inr (ci, ipDef ci))) (z + 1) (c + 1) (s + ipN ci)) : ip sc call mid MC MS Q pc lv st h z c s := fun I hI => hI.2.2.2.2.2.2.2.2.2.2.2.2.2.2.2.2.2.2.2.2.2.2.2.2.2.2.2.2.2.2.2.2.2.1 pc lv st h z c s x len ci b h0 h1 h2 (h3 I hI)
theorem ip_newa {pc : Nat} {lv : ipV} {st : List Value} {h : HP} {z c s : Nat} {at0 : ArrayType} {len t b N : Nat} {n : Int32} (h0 : ipAt mid pc = some (.newarray at0, len, t, b)) (h1 : ¬ n < 0) (h2 : n.toNatClampNeg = N) (h3 : N * 8 ≤ 536870912) (h4 : c + 1 ≤ MC) (h5 : s + N ≤ MS) (h6 : ip sc call mid MC MS Q (pc + len) lv (.ref z :: st) (hup h z (.inl (t, ipArr t N))) (z + 1) (c + 1) (s + N)) : ip sc call mid MC MS Q pc lv (.int n :: st) h z c s := fun I hI => hI.2.2.2.2.2.2.2.2.2.2.2.2.2.2.2.2.2.2.2.2.2.2.2.2.2.2.2.2.2.2.2.2.2.2.1 pc lv st h z c s at0 len t b N n h0 h1 h2 h3 h4 h5 (h6 I hI)
theorem ip_newq {pc : Nat} {lv : ipV} {st : List Value} {h : HP} {z c s : Nat} {x len t b N : Nat} {n : Int32} (h0 : ipAt mid pc = some (.anewarray x, len, t, b)) (h1 : ¬ n < 0) (h2 : n.toNatClampNeg = N) (h3 : N * 8 ≤ 536870912) (h4 : c + 1 ≤ MC) (h5 : s + N ≤ MS) (h6 : ip sc call mid MC MS Q (pc + len) lv (.ref z :: st) (hup h z (.inl (t, N, .inr (.inr (.inr (.inr (fun _ => none))))))) (z + 1) (c + 1) (s + N)) : ip sc call mid MC MS Q pc lv (.int n :: st) h z c s := fun I hI => hI.2.2.2.2.2.2.2.2.2.2.2.2.2.2.2.2.2.2.2.2.2.2.2.2.2.2.2.2.2.2.2.2.2.2.2.1 pc lv st h z c s x len t b N n h0 h1 h2 h3 h4 h5 (h6 I hI)
theorem ip_iret {pc : Nat} {lv : ipV} {st : List Value} {h : HP} {z c s : Nat} {len a b : Nat} {v : Int32} {ty : FieldType} (h0 : ipAt mid pc = some (.ireturn, len, a, b)) (h1 : ipR mid = some ty) (h2 : narrow ty (.int v) = .int v) (h3 : Q (some (.int v)) h z) : ip sc call mid MC MS Q pc lv [.int v] h z c s := fun I hI => hI.2.2.2.2.2.2.2.2.2.2.2.2.2.2.2.2.2.2.2.2.2.2.2.2.2.2.2.2.2.2.2.2.2.2.2.2.1 pc lv st h z c s len a b v ty h0 h1 h2 h3
theorem ip_vret {pc : Nat} {lv : ipV} {st : List Value} {h : HP} {z c s : Nat} {len a b : Nat} (h0 : ipAt mid pc = some (.return_, len, a, b)) (h1 : ipR mid = none) (h2 : Q none h z) : ip sc call mid MC MS Q pc lv [] h z c s := fun I hI => hI.2.2.2.2.2.2.2.2.2.2.2.2.2.2.2.2.2.2.2.2.2.2.2.2.2.2.2.2.2.2.2.2.2.2.2.2.2.1 pc lv st h z c s len a b h0 h1 h2
theorem ip_aret {pc : Nat} {lv : ipV} {st : List Value} {h : HP} {z c s : Nat} {len a b r : Nat} {o : String} (h0 : ipAt mid pc = some (.areturn, len, a, b)) (h1 : ipR mid = some (.object o)) (h2 : Q (some (.ref r)) h z) : ip sc call mid MC MS Q pc lv [.ref r] h z c s := fun I hI => hI.2.2.2.2.2.2.2.2.2.2.2.2.2.2.2.2.2.2.2.2.2.2.2.2.2.2.2.2.2.2.2.2.2.2.2.2.2.2.1 pc lv st h z c s len a b r o h0 h1 h2
theorem ip_virt {pc : Nat} {lv : ipV} {st : List Value} {h : HP} {z c s : Nat} {x len md n r mc ms : Nat} {fs : List Value} {As rest : List Value} {P : ipQ} (h0 : ipAt mid pc = some (.invokevirtual x, len, md, n)) (h1 : As.length = n) (h2 : (rest.map fun v => v.category).sum ≤ 8) (h3 : h r = some (.inr (ipO md, fs))) (h4 : c + mc ≤ MC) (h5 : s + ms ≤ MS) (h6 : call md (.ref r :: As) h z mc ms P) (h7 : st = As.reverse ++ .ref r :: rest) (h8 : (∀ (o : Option Value) (h2 : HP) (z2 : Nat), P o h2 z2 → ip sc call mid MC MS Q (pc + len) lv (o.toList ++ rest) h2 z2 (c + mc) (s + ms))) : ip sc call mid MC MS Q pc lv st h z c s := fun I hI => hI.2.2.2.2.2.2.2.2.2.2.2.2.2.2.2.2.2.2.2.2.2.2.2.2.2.2.2.2.2.2.2.2.2.2.2.2.2.2.2.1 pc lv st h z c s x len md n r mc ms fs As rest P h0 h1 h2 h3 h4 h5 h6 h7 (fun o h2 z2 q => h8 o h2 z2 q I hI)
theorem ip_spec {pc : Nat} {lv : ipV} {st : List Value} {h : HP} {z c s : Nat} {x len md n r mc ms : Nat} {As rest : List Value} {P : ipQ} (h0 : ipAt mid pc = some (.invokespecial x, len, md, n)) (h1 : As.length = n) (h2 : (rest.map fun v => v.category).sum ≤ 8) (h3 : c + mc ≤ MC) (h4 : s + ms ≤ MS) (h5 : md < 999) (h6 : call md (.ref r :: As) h z mc ms P) (h7 : st = As.reverse ++ .ref r :: rest) (h8 : (∀ (o : Option Value) (h2 : HP) (z2 : Nat), P o h2 z2 → ip sc call mid MC MS Q (pc + len) lv (o.toList ++ rest) h2 z2 (c + mc) (s + ms))) : ip sc call mid MC MS Q pc lv st h z c s := fun I hI => hI.2.2.2.2.2.2.2.2.2.2.2.2.2.2.2.2.2.2.2.2.2.2.2.2.2.2.2.2.2.2.2.2.2.2.2.2.2.2.2.2.1 pc lv st h z c s x len md n r mc ms As rest P h0 h1 h2 h3 h4 h5 h6 h7 (fun o h2 z2 q => h8 o h2 z2 q I hI)
theorem ip_stat {pc : Nat} {lv : ipV} {st : List Value} {h : HP} {z c s : Nat} {x len md n mc ms : Nat} {As rest : List Value} {P : ipQ} (h0 : ipAt mid pc = some (.invokestatic x, len, md, n)) (h1 : As.length = n) (h2 : (rest.map fun v => v.category).sum ≤ 8) (h3 : c + mc ≤ MC) (h4 : s + ms ≤ MS) (h5 : md < 998) (h6 : call md As h z mc ms P) (h7 : st = As.reverse ++ rest) (h8 : (∀ (o : Option Value) (h2 : HP) (z2 : Nat), P o h2 z2 → ip sc call mid MC MS Q (pc + len) lv (o.toList ++ rest) h2 z2 (c + mc) (s + ms))) : ip sc call mid MC MS Q pc lv st h z c s := fun I hI => hI.2.2.2.2.2.2.2.2.2.2.2.2.2.2.2.2.2.2.2.2.2.2.2.2.2.2.2.2.2.2.2.2.2.2.2.2.2.2.2.2.2.1 pc lv st h z c s x len md n mc ms As rest P h0 h1 h2 h3 h4 h5 h6 h7 (fun o h2 z2 q => h8 o h2 z2 q I hI)
theorem ip_objinit {pc : Nat} {lv : ipV} {st : List Value} {h : HP} {z c s : Nat} {x len b r : Nat} (h0 : ipAt mid pc = some (.invokespecial x, len, 999, b)) (h1 : (st.map fun v => v.category).sum ≤ 8) (h2 : ip sc call mid MC MS Q (pc + len) lv st h z c s) : ip sc call mid MC MS Q pc lv (.ref r :: st) h z c s := fun I hI => hI.2.2.2.2.2.2.2.2.2.2.2.2.2.2.2.2.2.2.2.2.2.2.2.2.2.2.2.2.2.2.2.2.2.2.2.2.2.2.2.2.2.2.1 pc lv st h z c s x len b r h0 h1 (h2 I hI)
theorem ip_copy {pc : Nat} {lv : ipV} {st : List Value} {h : HP} {z c s : Nat} {x len b r0 r1 n0 n1 : Nat} {f g : Nat → Int32} {sp dp n : Int32} (h0 : ipAt mid pc = some (.invokestatic x, len, 998, b)) (h1 : (st.map fun v => v.category).sum ≤ 8) (h2 : h r0 = some (.inl (0, n0, .inl f))) (h3 : h r1 = some (.inl (0, n1, .inl g))) (h4 : ¬ sp < 0) (h5 : ¬ dp < 0) (h6 : ¬ n < 0) (h7 : sp.toNatClampNeg + n.toNatClampNeg ≤ n0) (h8 : dp.toNatClampNeg + n.toNatClampNeg ≤ n1) (h9 : r0 ≠ r1) (h10 : ip sc call mid MC MS Q (pc + len) lv st (hup h r1 (.inl (0, n1, .inl (va_cpy f g sp.toNatClampNeg dp.toNatClampNeg n.toNatClampNeg)))) z c s) : ip sc call mid MC MS Q pc lv (.int n :: .int dp :: .ref r1 :: .int sp :: .ref r0 :: st) h z c s := fun I hI => hI.2.2.2.2.2.2.2.2.2.2.2.2.2.2.2.2.2.2.2.2.2.2.2.2.2.2.2.2.2.2.2.2.2.2.2.2.2.2.2.2.2.2.2 pc lv st h z c s x len b r0 r1 n0 n1 f g sp dp n h0 h1 h2 h3 h4 h5 h6 h7 h8 h9 (h10 I hI)
end IPR
def ipC (sc : ipSc) : Nat → ipCall
  | 0 => fun _ _ _ _ _ _ _ => False
  | d + 1 => fun mid vs h z MC MS Q => (ipArgs vs).length ≤ ipM mid ∧ ip sc (ipC sc d) mid MC MS Q 0 (ipIn (ipM mid) vs) [] h z 0 0
end
section
/-! the rules hold of the machine -/
def ipLen (i : Instr) : Nat := match i with
  | .tableswitch _ _ _ _ => 0
  | .bipush _ => 2
  | .sipush _ => 3
  | .ldc _ => 2
  | .ldc_w _ => 3
  | .ldc2_w _ => 3
  | .iload _ => 2
  | .aload _ => 2
  | .lload _ => 2
  | .istore _ => 2
  | .astore _ => 2
  | .lstore _ => 2
  | .iinc _ _ => 3
  | .if_icmp _ _ => 3
  | .ifCond _ _ => 3
  | .goto _ => 3
  | .ifnonnull _ => 3
  | .getfield _ => 3
  | .putfield _ => 3
  | .invokevirtual _ => 3
  | .invokespecial _ => 3
  | .invokestatic _ => 3
  | .new _ => 3
  | .anewarray _ => 3
  | .newarray _ => 2
  | _ => 1
def ipLenOK (q : ipEnt) : Bool := ipLen q.2.1 == 0 || q.2.2.1 == ipLen q.2.1
set_option maxRecDepth 100000 in
theorem ipLen_all : ipCodes.all (fun l => l.all ipLenOK) = true := by decide +kernel
theorem ipAt_all {mid pc : Nat} {i : Instr} {len a b : Nat} (h : ipAt mid pc = some (i, len, a, b)) : decode (ipB mid) pc = .ok (i, len) ∧ ipLk mid pc i a b = true ∧ (ipLen i ≠ 0 → len = ipLen i) := by
  obtain ⟨h1, h2⟩ := ipAt_ok h
  refine ⟨h1, h2, fun h0 => ?_⟩
  have hm := ipFind_mem _ _ _ h
  have hc : ipCode mid ∈ ipCodes ∨ ipCode mid = [] := by
    unfold ipCode
    rw [List.getD_eq_getElem?_getD]
    cases hq : ipCodes[mid]? with
    | none => exact Or.inr rfl
    | some x => exact Or.inl (List.mem_of_getElem? hq)
  rcases hc with hc | hc
  · have h3 := List.all_eq_true.mp (List.all_eq_true.mp ipLen_all _ hc) _ hm
    simp only [ipLenOK, Bool.or_eq_true, beq_iff_eq] at h3
    rcases h3 with h3 | h3
    · exact absurd h3 h0
    · exact h3
  · rw [hc] at hm
    cases hm
def ipL (ls : Array Slot) (nL : Nat) (lv : ipV) : Prop := ls.size = nL ∧ lv_wf ls ∧ lv.length = nL ∧ ∀ (n : Nat) (v : Value), lv[n]? = some (some v) → ls[n]? = some (.val v)
def ipAs : Nat → ipV → List (Nat × Value)
  | _, [] => []
  | k, none :: l => ipAs (k + 1) l
  | k, some v :: l => (k, v) :: ipAs (k + 1) l
theorem ipAs_in : ∀ (lv : ipV) (k n : Nat) (v : Value), (n, v) ∈ ipAs k lv ↔ ∃ j, n = k + j ∧ lv[j]? = some (some v)
  | [], k, n, v => by simp [ipAs]
  | none :: l, k, n, v => by
    rw [ipAs, ipAs_in l (k + 1) n v]
    constructor
    · rintro ⟨j, rfl, h⟩
      exact ⟨j + 1, by omega, by simpa using h⟩
    · rintro ⟨j, rfl, h⟩
      cases j with
      | zero => simp at h
      | succ j => exact ⟨j, by omega, by simpa using h⟩
  | some w :: l, k, n, v => by
    rw [ipAs, List.mem_cons, ipAs_in l (k + 1) n v]
    constructor
    · rintro (h | ⟨j, rfl, h⟩)
      · cases h
        exact ⟨0, rfl, rfl⟩
      · exact ⟨j + 1, by omega, by simpa using h⟩
    · rintro ⟨j, rfl, h⟩
      cases j with
      | zero =>
        left
        simp at h
        rw [h]
        rfl
      | succ j => exact Or.inr ⟨j, by omega, by simpa using h⟩
theorem ipL.has {ls : Array Slot} {nL : Nat} {lv : ipV} (h : ipL ls nL lv) : lv_has ls nL (ipAs 0 lv) := by
  refine ⟨h.1, h.2.1, fun q hq => ?_⟩
  obtain ⟨n, v⟩ := q
  obtain ⟨j, e, hj⟩ := (ipAs_in lv 0 n v).mp hq
  rw [Nat.zero_add] at e
  subst e
  exact h.2.2.2 n v hj
theorem ipKill_len (lv : ipV) (i : Nat) : (ipKill lv i).length = lv.length := by
  unfold ipKill
  split
  · rfl
  · split
    · split
      · simp
      · rfl
    · rfl
theorem ipKill_at {lv : ipV} {i n : Nat} {v : Value} (h : (ipKill lv i)[n]? = some (some v)) : lv[n]? = some (some v) ∧ ¬ (n + 1 = i ∧ v.category = 2) := by
  unfold ipKill at h
  split at h
  · exact ⟨h, by omega⟩
  · rename_i j
    split at h
    · rename_i w hw
      split at h
      · rename_i hc
        by_cases e : j = n
        · subst e
          rw [List.getElem?_set] at h
          simp at h
        · rw [List.getElem?_set_ne e] at h
          exact ⟨h, fun q => e (by omega)⟩
      · rename_i hc
        refine ⟨h, fun q => ?_⟩
        have e : j = n := by omega
        subst e
        rw [hw] at h
        cases h
        exact hc q.2
    · rename_i hw
      refine ⟨h, fun q => ?_⟩
      have e : j = n := by omega
      subst e
      exact hw v h
theorem ipL.set1 {ls ls2 : Array Slot} {nL i : Nat} {lv : ipV} {v : Value} (h : ipL ls nL lv) (hc : v.category = 1) (h2 : lv_has ls2 nL ((i, v) :: (ipAs 0 lv).filter (fun q => !(q.1 == i) && !(q.1 + 1 == i && q.2.category == 2)))) : ipL ls2 nL (ipSet lv i v) := by
  have hs : ipSet lv i v = (ipKill lv i).set i (some v) := by unfold ipSet; rw [if_neg (by omega)]
  refine ⟨h2.1, h2.2.1, by rw [hs, List.length_set, ipKill_len]; exact h.2.2.1, fun n w hw => ?_⟩
  rw [hs] at hw
  by_cases e : i = n
  · subst e
    rw [List.getElem?_set] at hw
    simp at hw
    rw [← hw.2]
    exact h2.2.2 (i, v) List.mem_cons_self
  · rw [List.getElem?_set_ne e] at hw
    obtain ⟨h3, h4⟩ := ipKill_at hw
    refine h2.2.2 (n, w) (List.mem_cons_of_mem _ (List.mem_filter.mpr ⟨(ipAs_in lv 0 n w).mpr ⟨n, by omega, h3⟩, ?_⟩))
    simp only [Bool.and_eq_true, Bool.not_eq_true', beq_eq_false_iff_ne, ne_eq, Bool.and_eq_false_iff]
    refine ⟨fun q => e q.symm, ?_⟩
    by_cases q : n + 1 = i
    · exact Or.inr fun r => h4 ⟨q, r⟩
    · exact Or.inl q
theorem ipL.set2 {ls ls2 : Array Slot} {nL i : Nat} {lv : ipV} {v : Value} (h : ipL ls nL lv) (hc : v.category = 2) (h2 : lv_has ls2 nL ((i, v) :: (ipAs 0 lv).filter (fun q => !(q.1 == i) && (!(q.1 == i + 1) && !(q.1 + 1 == i && q.2.category == 2))))) : ipL ls2 nL (ipSet lv i v) := by
  have hs : ipSet lv i v = ((ipKill lv i).set i (some v)).set (i + 1) none := by unfold ipSet; rw [if_pos hc]
  refine ⟨h2.1, h2.2.1, by rw [hs, List.length_set, List.length_set, ipKill_len]; exact h.2.2.1, fun n w hw => ?_⟩
  rw [hs] at hw
  by_cases e1 : i + 1 = n
  · subst e1
    rw [List.getElem?_set] at hw
    simp at hw
  · rw [List.getElem?_set_ne e1] at hw
    by_cases e : i = n
    · subst e
      rw [List.getElem?_set] at hw
      simp at hw
      rw [← hw.2]
      exact h2.2.2 (i, v) List.mem_cons_self
    · rw [List.getElem?_set_ne e] at hw
      obtain ⟨h3, h4⟩ := ipKill_at hw
      refine h2.2.2 (n, w) (List.mem_cons_of_mem _ (List.mem_filter.mpr ⟨(ipAs_in lv 0 n w).mpr ⟨n, by omega, h3⟩, ?_⟩))
      simp only [Bool.and_eq_true, Bool.not_eq_true', beq_eq_false_iff_ne, ne_eq, Bool.and_eq_false_iff]
      refine ⟨fun q => e q.symm, fun q => e1 q.symm, ?_⟩
      by_cases q : n + 1 = i
      · exact Or.inr fun r => h4 ⟨q, r⟩
      · exact Or.inl q
-- the words
theorem ipz {α : Type} (P : α → Cond) : ∀ (l : List α) (is : List Nat), (l.zip is).all (fun q => decide (tables_1[q.2]? = some (P q.1))) = true → l.length ≤ is.length → ∀ q ∈ l, P q ∈ lw_tbl
  | [], _, _, _, q, hq => by cases hq
  | x :: l, [], _, h2, q, hq => by simp at h2
  | x :: l, i :: is, h1, h2, q, hq => by
    rw [List.zip_cons_cons, List.all_cons, Bool.and_eq_true] at h1
    rcases List.mem_cons.mp hq with rfl | hq
    · exact List.mem_append_right _ (List.mem_of_getElem? (of_decide_eq_true h1.1))
    · exact ipz P l is h1.2 (by simpa using h2) q hq
def ipTW : List Cond := lw_tbl.filter goodWord
theorem ipTW_in {w : Cond} (h : w ∈ lw_tbl) (hg : goodWord w = true) : w ∈ ipTW := List.mem_filter.mpr ⟨h, hg⟩
set_option maxRecDepth 100000 in
theorem ipFL_w : ∀ q ∈ ipFL, Cond.fieldLink (ipCN q.1) q.2.1 (ipT q.2.2.1 q.2.2.2).1 (ipT q.2.2.1 q.2.2.2).2.1 (ipT q.2.2.1 q.2.2.2).2.2.1 ∈ lw_tbl := ipz (fun q => Cond.fieldLink (ipCN q.1) q.2.1 (ipT q.2.2.1 q.2.2.2).1 (ipT q.2.2.1 q.2.2.2).2.1 (ipT q.2.2.1 q.2.2.2).2.2.1) ipFL ipFLi (by decide +kernel) (by decide +kernel)
set_option maxRecDepth 100000 in
theorem ipFL_r : ipFL.all (fun q => decide (q.2.2.1 < 10) && decide (q.2.2.2 < ipN q.2.2.1)) = true := by decide +kernel
set_option maxRecDepth 100000 in
theorem ipVL_w : ∀ q ∈ ipVL, Cond.methodLink (ipCN q.1) q.2.1 (ipY q.2.2.1) ∈ lw_tbl := ipz (fun q => Cond.methodLink (ipCN q.1) q.2.1 (ipY q.2.2.1)) ipVL ipVLi (by decide +kernel) (by decide +kernel)
set_option maxRecDepth 100000 in
theorem ipIL_w : ∀ q ∈ ipIL, Cond.methodLink (ipCN q.1) q.2.1 (ipY q.2.2.1) ∈ lw_tbl := ipz (fun q => Cond.methodLink (ipCN q.1) q.2.1 (ipY q.2.2.1)) ipIL ipILi (by decide +kernel) (by decide +kernel)
set_option maxRecDepth 100000 in
theorem ipNL_w : ∀ q ∈ ipNL, Cond.methodLinkNest (ipCN q.1) q.2.1 (ipY q.2.2.1) RX8 ∈ lw_tbl := ipz (fun q => Cond.methodLinkNest (ipCN q.1) q.2.1 (ipY q.2.2.1) RX8) ipNL ipNLi (by decide +kernel) (by decide +kernel)
set_option maxRecDepth 100000 in
theorem ipSL_w : ∀ q ∈ ipSL, Cond.methodLink (ipCN q.1) q.2.1 (ipY q.2.2.1) ∈ lw_tbl := ipz (fun q => Cond.methodLink (ipCN q.1) q.2.1 (ipY q.2.2.1)) ipSL ipSLi (by decide +kernel) (by decide +kernel)
set_option maxRecDepth 100000 in
theorem ipCL_w : ∀ q ∈ ipCL, Cond.classLink (ipCN q.1) q.2.1 (ipCN q.2.2) ∈ lw_tbl := ipz (fun q => Cond.classLink (ipCN q.1) q.2.1 (ipCN q.2.2)) ipCL ipCLi (by decide +kernel) (by decide +kernel)
def ipAC (t : Nat) : String := match t with
  | 4 => "SproutTable$Move"
  | 5 => "SproutTable$Position"
  | _ => "SproutTable$Notes"
set_option maxRecDepth 100000 in
theorem ipAL_w : ∀ q ∈ ipAL, Cond.classLink (ipCN q.1) q.2.1 (ipAC q.2.2) ∈ lw_tbl := ipz (fun q => Cond.classLink (ipCN q.1) q.2.1 (ipAC q.2.2)) ipAL ipALi (by decide +kernel) (by decide +kernel)
set_option maxRecDepth 100000 in
theorem ipKL_w : ∀ q ∈ ipKL, Cond.constant (ipCN q.1) q.2.1 (Int32.ofNat q.2.2) ∈ lw_tbl := ipz (fun q => Cond.constant (ipCN q.1) q.2.1 (Int32.ofNat q.2.2)) ipKL ipKLi (by decide +kernel) (by decide +kernel)
set_option maxRecDepth 100000 in
theorem ipKLL_w : ∀ q ∈ ipKLL, Cond.constantLong (ipCN q.1) q.2.1 (Int64.ofNat q.2.2) ∈ lw_tbl := ipz (fun q => Cond.constantLong (ipCN q.1) q.2.1 (Int64.ofNat q.2.2)) ipKLL ipKLLi (by decide +kernel) (by decide +kernel)
set_option maxRecDepth 100000 in
theorem ipOL_w : ∀ q ∈ ipOL, Cond.methodLink (ipCN q.1) q.2 Lib.objectInit ∈ lw_tbl := ipz (fun q => Cond.methodLink (ipCN q.1) q.2 Lib.objectInit) ipOL ipOLi (by decide +kernel) (by decide +kernel)
set_option maxRecDepth 100000 in
theorem ipXL_w : ∀ q ∈ ipXL, Cond.methodLink (ipCN q.1) q.2 arraycopyName ∈ lw_tbl := ipz (fun q => Cond.methodLink (ipCN q.1) q.2 arraycopyName) ipXL ipXLi (by decide +kernel) (by decide +kernel)
end
section
/-! each rule, over the machine -/
def ipE (aC : Nat → Nat) (x : hE) : va_E := match x with
  | .inl q => .inl (aC q.1, q.2)
  | .inr o => .inr o
def ipW (D : va_G) (aC : Nat → Nat) (B0 bb : Nat) (cb : Cell) (h : HP) (z : Nat) (H : Heap) : Prop := H.size = z ∧ H[bb]? = some cb ∧ B0 ≤ z ∧ ∀ (a : Nat) (x : hE), h a = some x → B0 ≤ a ∧ va_at D vwCl (a, ipE aC x) H
def ipTys (aC : Nat → Nat) : List (ClassId × FieldType) := [(aC 0, .int), (aC 1, .long), (aC 2, .byte), (aC 3, .boolean), (aC 4, .object "SproutTable$Move"), (aC 5, .object "SproutTable$Position"), (aC 6, .object "SproutTable$Notes")]
def ipK (D : va_G) (aC : Nat → Nat) (cb : Cell) (sc : ipSc) (U : State) : Prop := va_K D vwCl (ipTys aC) U ∧ (U.isArrayOf cb .int ∧ cb.vm ≠ .unknown ∧ cb.slots.size = sc.2.1 ∧ ∀ j : Nat, j < sc.2.1 → cb.slots[j]? = some (.int (sc.2.2 j))) ∧ (∀ q ∈ ipNL, va_Nw (.methodLinkNest (ipCN q.1) q.2.1 (ipY q.2.2.1) RX8) U) ∧ ∀ t : Nat, 4 ≤ t → t < 7 → va_AO (ipAC t) U
theorem ipK.warm {D : va_G} {aC : Nat → Nat} {cb : Cell} {sc : ipSc} {s U : State} (hW : s.WarmedH U.vm) (h : ipK D aC cb sc s) : ipK D aC cb sc U :=
  ⟨va_K.moved hW.alike h.1, ⟨State.isArrayOf_alike hW.alike h.2.1.1, h.2.1.2⟩, fun q hq => va_Nw.warmM hW (h.2.2.1 q hq), fun t h1 h2 => va_AO.moved hW.alike (h.2.2.2 t h1 h2)⟩
theorem ipK.same {D : va_G} {aC : Nat → Nat} {cb : Cell} {sc : ipSc} {s U : State} (hv : s.vm = U.vm) (h : ipK D aC cb sc s) : ipK D aC cb sc U := by
  have ha : s.vm.Alike U.vm := by rw [hv]; exact Vm.Alike.refl _
  exact ⟨va_K.moved ha h.1, ⟨State.isArrayOf_alike ha h.2.1.1, h.2.1.2⟩, fun q hq => va_Nw.same rfl hv (h.2.2.1 q hq), fun t h1 h2 => va_AO.moved ha (h.2.2.2 t h1 h2)⟩
theorem va_P1 {D : va_G} {cl : List vw_C} {q : Nat × va_E} {H : Heap} (h : va_at D cl q H) : va_P D cl [q] H := fun k r hr => by
  have hk : k < 1 := (List.getElem?_eq_some_iff.mp hr).1
  rw [show k = 0 by omega] at hr
  cases hr
  exact h
theorem ipW.put {D : va_G} {aC : Nat → Nat} {B0 bb : Nat} {cb : Cell} {h : HP} {z r : Nat} {x0 x1 : hE} {H H1 : Heap} (hbb : bb < B0) (hw : ipW D aC B0 bb cb h z H) (hr : h r = some x0) (hz : H1.size = H.size) (ho : ∀ q, q ≠ r → H1[q]? = H[q]?) (ha : va_at D vwCl (r, ipE aC x1) H1) : ipW D aC B0 bb cb (hup h r x1) z H1 := by
  obtain ⟨h1, h2, h3, h4⟩ := hw
  have hB := (h4 r x0 hr).1
  refine ⟨hz.trans h1, by rw [ho bb (by omega)]; exact h2, h3, fun a x hx => ?_⟩
  unfold hup at hx
  by_cases e : a = r
  · rw [if_pos e] at hx
    cases hx
    subst e
    exact ⟨hB, ha⟩
  · rw [if_neg e] at hx
    exact ⟨(h4 a x hx).1, (h4 a x hx).2.kept (ho a e)⟩
theorem ipW.push {D : va_G} {aC : Nat → Nat} {B0 bb : Nat} {cb : Cell} {h : HP} {z : Nat} {x1 : hE} {H H1 : Heap} (hbb : bb < B0) (hw : ipW D aC B0 bb cb h z H) (hz : H1.size = z + 1) (ho : ∀ q, q < z → H1[q]? = H[q]?) (ha : va_at D vwCl (z, ipE aC x1) H1) : ipW D aC B0 bb cb (hup h z x1) (z + 1) H1 := by
  obtain ⟨h1, h2, h3, h4⟩ := hw
  refine ⟨hz, by rw [ho bb (by omega)]; exact h2, by omega, fun a x hx => ?_⟩
  unfold hup at hx
  by_cases e : a = z
  · rw [if_pos e] at hx
    cases hx
    subst e
    exact ⟨h3, ha⟩
  · rw [if_neg e] at hx
    have hl := (h4 a x hx).2.lt
    exact ⟨(h4 a x hx).1, (h4 a x hx).2.kept (ho a (by rw [← h1]; exact hl))⟩
theorem ipFL_in {q : Nat × Nat × Nat × Nat} (h : ipFL.contains q = true) : q ∈ ipFL := List.contains_iff_mem.mp h
theorem ipFL_lt {o x a b : Nat} (h : (o, x, a, b) ∈ ipFL) : a < 10 ∧ b < ipN a := by
  have h1 := List.all_eq_true.mp ipFL_r _ h
  simp only [Bool.and_eq_true, decide_eq_true_eq] at h1
  exact h1
def ipTf (ci : Nat) : u_T := (ipTs.getD ci (TX0, tyX0, 2)).1
def ipTyf (ci : Nat) : Nat → FieldType := (ipTs.getD ci (TX0, tyX0, 2)).2.1
theorem ipCls {ci : Nat} (h : ci < 10) : vwCl[ci]? = some (ipCN ci, ipTf ci, ipN ci) := by
  match ci, h with
  | 0, _ => rfl
  | 1, _ => rfl
  | 2, _ => rfl
  | 3, _ => rfl
  | 4, _ => rfl
  | 5, _ => rfl
  | 6, _ => rfl
  | 7, _ => rfl
  | 8, _ => rfl
  | 9, _ => rfl
  | n + 10, h => exact absurd h (by omega)
set_option maxRecDepth 100000 in
theorem ipLay0 : (List.range 10).all (fun ci => (u_ws (ipCN ci) (ipTf ci) (ipN ci)).all (fun w => decide (w ∈ lw_tbl) && goodWord w)) = true := by decide +kernel
theorem ipLay {ci : Nat} (h : ci < 10) : ∀ w ∈ u_ws (ipCN ci) (ipTf ci) (ipN ci), w ∈ ipTW := by
  intro w hw
  have h1 := List.all_eq_true.mp (List.all_eq_true.mp ipLay0 ci (List.mem_range.mpr h)) w hw
  simp only [Bool.and_eq_true, decide_eq_true_eq] at h1
  exact ipTW_in h1.1 h1.2
set_option maxRecDepth 100000 in
theorem ipTyD0 : (List.range 10).all (fun ci => (List.range (ipN ci)).all (fun k => decide (parseFieldDescriptor (ipT ci k).2.2.1 = some (ipTy ci k)))) = true := by decide +kernel
theorem ipTyD {ci : Nat} (h : ci < 10) : ∀ k, k < ipN ci → parseFieldDescriptor (ipTf ci k).2.2.1 = some (ipTyf ci k) := by
  intro k hk
  have h1 := List.all_eq_true.mp (List.all_eq_true.mp ipTyD0 ci (List.mem_range.mpr h)) k (List.mem_range.mpr hk)
  exact of_decide_eq_true h1
set_option maxRecDepth 100000 in
theorem ipNm0 : (List.range 10).all (fun ci => (List.range (ipN ci)).all (fun a => (List.range (ipN ci)).all (fun b => decide (a = b) || decide ((ipT ci a).2.1 ≠ (ipT ci b).2.1)))) = true := by decide +kernel
theorem ipNm {ci : Nat} (h : ci < 10) : ∀ a, a < ipN ci → ∀ b, b < ipN ci → a ≠ b → (ipTf ci a).2.1 ≠ (ipTf ci b).2.1 := by
  intro a ha b hb hab
  have h1 := List.all_eq_true.mp (List.all_eq_true.mp (List.all_eq_true.mp ipNm0 ci (List.mem_range.mpr h)) a (List.mem_range.mpr ha)) b (List.mem_range.mpr hb)
  simp only [Bool.or_eq_true, decide_eq_true_eq] at h1
  rcases h1 with h1 | h1
  · exact absurd h1 hab
  · exact h1
def ipX (p : Program) (s : State) (m : MethodId) (args : Array Value) (meth : Method) (c : Code) (D : va_G) (aC : Nat → Nat) (B0 bb : Nat) (cb : Cell) (sc : ipSc) (mid : Nat) : Prop :=
  p.tables.exec = Jvm.exec ∧ c.code = ipB mid ∧ c.maxLocals = ipM mid ∧ s.vm.findClass (ipCN (ipO mid)) = some m.cls ∧ (∀ w ∈ ipTW, w.before args s = true) ∧ ipK D aC cb sc s ∧ ((ipY mid).name = "<init>" → meth.name = "<init>") ∧ bb < B0 ∧ sc.1 = bb
def ipJ (p : Program) (l : Launch) (e : Env) (R : Room) (s : State) (m : MethodId) (args : Array Value) (below : List Frame) (meth : Method) (c : Code) (Z : State → Prop) (D : va_G) (aC : Nat → Nat) (B0 bb : Nat) (cb : Cell) (nL MC MS : Nat) : ipI := fun pc lv st h z k n => ∀ (H : Heap) (locs : List Loc) (ls : Array Slot), k ≤ MC → n ≤ MS → ipW D aC B0 bb cb h z H → ipL ls nL lv → (∀ q ∈ locs, B0 ≤ q.base) → W p l e R s m args below meth c H locs k n Z (F0 m pc ls st)
section IPS
variable {p : Program} {l : Launch} {e : Env} {R : Room} {s : State} {m : MethodId} {args : Array Value} {below : List Frame} {meth : Method} {c : Code} {Z : State → Prop} {D : va_G} {aC : Nat → Nat} {B0 bb : Nat} {cb : Cell} {sc : ipSc} {call : ipCall} {mid MC MS : Nat} {Q : ipQ}
theorem sd_weak : ru_weak sc call mid MC MS Q (ipJ p l e R s m args below meth c Z D aC B0 bb cb (ipM mid) MC MS) := by
  intro pc lv st h z k n lv2 e1 e2 hk H locs ls h1 h2 hw hl hL
  exact hk H locs ls h1 h2 hw ⟨hl.1, hl.2.1, e1.trans hl.2.2.1, fun j v hj => hl.2.2.2 j v (e2 j v hj)⟩ hL
theorem sd_con (C : ipX p s m args meth c D aC B0 bb cb sc mid) : ru_con sc call mid MC MS Q (ipJ p l e R s m args below meth c Z D aC B0 bb cb (ipM mid) MC MS) := by
  intro pc lv st h z k n i len a b v hat hc hk H locs ls h1 h2 hw hl hL
  obtain ⟨hd, hlk, hlen⟩ := ipAt_all hat
  obtain ⟨hx, hb, hml, hown, hts, hK, -⟩ := C
  unfold ipCon at hc
  split at hc
  · cases hc
    have e : len = 1 := hlen (Nat.succ_ne_zero _)
    subst e
    exact lv_iconst hx hb hd rfl (hk H locs ls h1 h2 hw hl hL)
  · cases hc
    have e : len = 2 := hlen (Nat.succ_ne_zero _)
    subst e
    exact lv_bipush hx hb hd rfl (hk H locs ls h1 h2 hw hl hL)
  · cases hc
    have e : len = 3 := hlen (Nat.succ_ne_zero _)
    subst e
    exact lv_sipush hx hb hd rfl (hk H locs ls h1 h2 hw hl hL)
  · cases hc
    have e : len = 1 := hlen (Nat.succ_ne_zero _)
    subst e
    exact lv_lconst hx hb hd rfl (hk H locs ls h1 h2 hw hl hL)
  · cases hc
    have e : len = 2 := hlen (Nat.succ_ne_zero _)
    subst e
    have hq := ipKL_w _ (List.contains_iff_mem.mp hlk)
    exact W.ldc hx hb hown (hts _ (ipTW_in hq rfl)) rfl hd (hk H locs ls h1 h2 hw hl hL)
  · cases hc
    have e : len = 3 := hlen (Nat.succ_ne_zero _)
    subst e
    have hq := ipKL_w _ (List.contains_iff_mem.mp hlk)
    exact lv_ldcw hx hb hown (hts _ (ipTW_in hq rfl)) hd (hk H locs ls h1 h2 hw hl hL)
  · cases hc
    have e : len = 3 := hlen (Nat.succ_ne_zero _)
    subst e
    have hq := ipKLL_w _ (List.contains_iff_mem.mp hlk)
    exact W.ldc2 hx hb hown (hts _ (ipTW_in hq rfl)) rfl hd (hk H locs ls h1 h2 hw hl hL)
  · cases hc
theorem sd_load (C : ipX p s m args meth c D aC B0 bb cb sc mid) : ru_load sc call mid MC MS Q (ipJ p l e R s m args below meth c Z D aC B0 bb cb (ipM mid) MC MS) := by
  intro pc lv st h z k n i len a b j v hat hc hj hk H locs ls h1 h2 hw hl hL
  obtain ⟨hd, hlk, hlen⟩ := ipAt_all hat
  obtain ⟨hx, hb, hml, hown, hts, hK, -⟩ := C
  have hv := hl.2.2.2 j v hj
  unfold ipLd at hc
  split at hc
  · split at hc
    · cases hc
      have e : len = 2 := hlen (Nat.succ_ne_zero _)
      subst e
      exact lv_iload hx hb hd hv (hk H locs ls h1 h2 hw hl hL)
    · cases hc
      have e : len = 1 := hlen (Nat.succ_ne_zero _)
      subst e
      exact lv_iload_n hx hb hd rfl hv (hk H locs ls h1 h2 hw hl hL)
    · cases hc
  · split at hc
    · cases hc
      have e : len = 2 := hlen (Nat.succ_ne_zero _)
      subst e
      exact lv_lload hx hb hd hv (hk H locs ls h1 h2 hw hl hL)
    · cases hc
      have e : len = 1 := hlen (Nat.succ_ne_zero _)
      subst e
      exact lv_lload_n hx hb hd rfl hv (hk H locs ls h1 h2 hw hl hL)
    · cases hc
  · split at hc
    · cases hc
      have e : len = 2 := hlen (Nat.succ_ne_zero _)
      subst e
      exact lv_aload hx hb hd hv (hk H locs ls h1 h2 hw hl hL)
    · cases hc
      have e : len = 1 := hlen (Nat.succ_ne_zero _)
      subst e
      exact lv_aload_n hx hb hd rfl hv (hk H locs ls h1 h2 hw hl hL)
    · cases hc
  · cases hc
theorem sd_store (C : ipX p s m args meth c D aC B0 bb cb sc mid) : ru_store sc call mid MC MS Q (ipJ p l e R s m args below meth c Z D aC B0 bb cb (ipM mid) MC MS) := by
  intro pc lv st h z k n i len a b j v hat hc hj hk H locs ls h1 h2 hw hl hL
  obtain ⟨hd, hlk, hlen⟩ := ipAt_all hat
  obtain ⟨hx, hb, hml, hown, hts, hK, -⟩ := C
  rw [hl.2.2.1] at hj
  unfold ipSto at hc
  split at hc
  · have hj : j < ipM mid := hj
    split at hc
    · cases hc
      have e : len = 2 := hlen (Nat.succ_ne_zero _)
      subst e
      exact lv_istore hx hb hd hl.has hj rfl (fun ls2 h3 => hk H locs ls2 h1 h2 hw (hl.set1 rfl h3) hL)
    · cases hc
      have e : len = 1 := hlen (Nat.succ_ne_zero _)
      subst e
      exact lv_istore_n hx hb hd rfl hl.has hj rfl (fun ls2 h3 => hk H locs ls2 h1 h2 hw (hl.set1 rfl h3) hL)
    · cases hc
  · have hj : j + 1 < ipM mid := hj
    split at hc
    · cases hc
      have e : len = 2 := hlen (Nat.succ_ne_zero _)
      subst e
      exact lv_lstore hx hb hd hl.has hj rfl (fun ls2 h3 => hk H locs ls2 h1 h2 hw (hl.set2 rfl h3) hL)
    · cases hc
      have e : len = 1 := hlen (Nat.succ_ne_zero _)
      subst e
      exact lv_lstore_n hx hb hd rfl hl.has hj rfl (fun ls2 h3 => hk H locs ls2 h1 h2 hw (hl.set2 rfl h3) hL)
    · cases hc
  · have hj : j < ipM mid := hj
    split at hc
    · cases hc
      have e : len = 2 := hlen (Nat.succ_ne_zero _)
      subst e
      exact lv_astore hx hb hd hl.has hj rfl (fun ls2 h3 => hk H locs ls2 h1 h2 hw (hl.set1 rfl h3) hL)
    · cases hc
      have e : len = 1 := hlen (Nat.succ_ne_zero _)
      subst e
      exact lv_astore_n hx hb hd rfl hl.has hj rfl (fun ls2 h3 => hk H locs ls2 h1 h2 hw (hl.set1 rfl h3) hL)
    · cases hc
  · cases hc
theorem sd_iinc (C : ipX p s m args meth c D aC B0 bb cb sc mid) : ru_iinc sc call mid MC MS Q (ipJ p l e R s m args below meth c Z D aC B0 bb cb (ipM mid) MC MS) := by
  intro pc lv st h z k n j d len a b x hat hj hk H locs ls h1 h2 hw hl hL
  obtain ⟨hd, hlk, hlen⟩ := ipAt_all hat
  obtain ⟨hx, hb, hml, hown, hts, hK, -⟩ := C
  have e : len = 3 := hlen (Nat.succ_ne_zero _)
  subst e
  have hin := (ipAs_in lv 0 j (.int x)).mpr ⟨j, by omega, hj⟩
  obtain ⟨kk, hkk⟩ := List.mem_iff_getElem?.mp hin
  have hlt : j < ipM mid := by
    have := (List.getElem?_eq_some_iff.mp hj).1
    rw [hl.2.2.1] at this
    exact this
  exact lv_iinc hx hb hd hl.has hkk rfl hlt rfl (fun ls2 h3 => hk H locs ls2 h1 h2 hw (hl.set1 rfl h3) hL)
theorem sd_bin (C : ipX p s m args meth c D aC B0 bb cb sc mid) : ru_bin sc call mid MC MS Q (ipJ p l e R s m args below meth c Z D aC B0 bb cb (ipM mid) MC MS) := by
  intro pc lv st h z k n i len a b x y v hat hc hk H locs ls h1 h2 hw hl hL
  obtain ⟨hd, hlk, hlen⟩ := ipAt_all hat
  obtain ⟨hx, hb, hml, hown, hts, hK, -⟩ := C
  unfold ipBin at hc
  split at hc
  all_goals first | (cases hc; done) | skip
  all_goals
    cases hc
    have e : len = 1 := hlen (Nat.succ_ne_zero _)
    subst e
  · exact lv_iadd hx hb hd (hk H locs ls h1 h2 hw hl hL)
  · exact lv_isub hx hb hd (hk H locs ls h1 h2 hw hl hL)
  · exact lv_imul hx hb hd (hk H locs ls h1 h2 hw hl hL)
  · exact lv_iand hx hb hd (hk H locs ls h1 h2 hw hl hL)
  · exact lv_ior hx hb hd (hk H locs ls h1 h2 hw hl hL)
  · exact lv_ixor hx hb hd (hk H locs ls h1 h2 hw hl hL)
  · exact lv_ishl hx hb hd (hk H locs ls h1 h2 hw hl hL)
  · exact lv_ishr hx hb hd (hk H locs ls h1 h2 hw hl hL)
  · exact lv_iushr hx hb hd rfl (hk H locs ls h1 h2 hw hl hL)
theorem sd_lbin (C : ipX p s m args meth c D aC B0 bb cb sc mid) : ru_lbin sc call mid MC MS Q (ipJ p l e R s m args below meth c Z D aC B0 bb cb (ipM mid) MC MS) := by
  intro pc lv st h z k n i len a b x y v hat hc hk H locs ls h1 h2 hw hl hL
  obtain ⟨hd, hlk, hlen⟩ := ipAt_all hat
  obtain ⟨hx, hb, hml, hown, hts, hK, -⟩ := C
  unfold ipLbin at hc
  split at hc
  all_goals first | (cases hc; done) | skip
  all_goals
    cases hc
    have e : len = 1 := hlen (Nat.succ_ne_zero _)
    subst e
  · exact lv_ladd hx hb hd (hk H locs ls h1 h2 hw hl hL)
  · exact lv_lmul hx hb hd (hk H locs ls h1 h2 hw hl hL)
  · exact lv_lor hx hb hd (hk H locs ls h1 h2 hw hl hL)
  · exact lv_lxor hx hb hd (hk H locs ls h1 h2 hw hl hL)
theorem sd_lsh (C : ipX p s m args meth c D aC B0 bb cb sc mid) : ru_lsh sc call mid MC MS Q (ipJ p l e R s m args below meth c Z D aC B0 bb cb (ipM mid) MC MS) := by
  intro pc lv st h z k n i len a b x y v hat hc hk H locs ls h1 h2 hw hl hL
  obtain ⟨hd, hlk, hlen⟩ := ipAt_all hat
  obtain ⟨hx, hb, hml, hown, hts, hK, -⟩ := C
  unfold ipLsh at hc
  split at hc
  all_goals first | (cases hc; done) | skip
  all_goals
    cases hc
    have e : len = 1 := hlen (Nat.succ_ne_zero _)
    subst e
  · exact lv_lshl hx hb hd rfl (hk H locs ls h1 h2 hw hl hL)
  · exact lv_lshr hx hb hd rfl (hk H locs ls h1 h2 hw hl hL)
  · exact lv_lushr hx hb hd rfl (hk H locs ls h1 h2 hw hl hL)
theorem sd_cv (C : ipX p s m args meth c D aC B0 bb cb sc mid) : ru_cv sc call mid MC MS Q (ipJ p l e R s m args below meth c Z D aC B0 bb cb (ipM mid) MC MS) := by
  intro pc lv st h z k n i len a b x v hat hc hk H locs ls h1 h2 hw hl hL
  obtain ⟨hd, hlk, hlen⟩ := ipAt_all hat
  obtain ⟨hx, hb, hml, hown, hts, hK, -⟩ := C
  unfold ipCv at hc
  split at hc
  · split at hc
    all_goals first | (cases hc; done) | skip
    all_goals
      cases hc
      have e : len = 1 := hlen (Nat.succ_ne_zero _)
      subst e
    · exact lv_i2l hx hb hd rfl (hk H locs ls h1 h2 hw hl hL)
    · exact lv_i2b hx hb hd rfl (hk H locs ls h1 h2 hw hl hL)
    · exact lv_ineg hx hb hd (hk H locs ls h1 h2 hw hl hL)
  · split at hc
    all_goals first | (cases hc; done) | skip
    all_goals
      cases hc
      have e : len = 1 := hlen (Nat.succ_ne_zero _)
      subst e
    · exact lv_l2i hx hb hd rfl (hk H locs ls h1 h2 hw hl hL)
  · cases hc
theorem sd_lcmp (C : ipX p s m args meth c D aC B0 bb cb sc mid) : ru_lcmp sc call mid MC MS Q (ipJ p l e R s m args below meth c Z D aC B0 bb cb (ipM mid) MC MS) := by
  intro pc lv st h z k n len a b x y hat hk H locs ls h1 h2 hw hl hL
  obtain ⟨hd, hlk, hlen⟩ := ipAt_all hat
  obtain ⟨hx, hb, hml, hown, hts, hK, -⟩ := C
  have e : len = 1 := hlen (Nat.succ_ne_zero _)
  subst e
  exact W.lcmp hx hb hd (hk H locs ls h1 h2 hw hl hL)
theorem sd_icmp (C : ipX p s m args meth c D aC B0 bb cb sc mid) : ru_icmp sc call mid MC MS Q (ipJ p l e R s m args below meth c Z D aC B0 bb cb (ipM mid) MC MS) := by
  intro pc lv st h z k n cd off len a b x y hat ht hf H locs ls h1 h2 hw hl hL
  obtain ⟨hd, hlk, hlen⟩ := ipAt_all hat
  obtain ⟨hx, hb, hml, hown, hts, hK, -⟩ := C
  have e : len = 3 := hlen (Nat.succ_ne_zero _)
  subst e
  have htg : (pc : Int) + off = (a : Int) := of_decide_eq_true hlk
  cases cd
  · exact lv_icmp_eq hx hb hd htg (fun q => ht q H locs ls h1 h2 hw hl hL) (fun q => hf q H locs ls h1 h2 hw hl hL)
  · exact lv_icmp_ne hx hb hd htg (fun q => ht q H locs ls h1 h2 hw hl hL) (fun q => hf (fun r => r q) H locs ls h1 h2 hw hl hL)
  · exact lv_icmp_lt hx hb hd htg (fun q => ht q H locs ls h1 h2 hw hl hL) (fun q => hf q H locs ls h1 h2 hw hl hL)
  · exact lv_icmp_ge hx hb hd htg (fun q => ht q H locs ls h1 h2 hw hl hL) (fun q => hf q H locs ls h1 h2 hw hl hL)
  · exact lv_icmp_gt hx hb hd htg (fun q => ht q H locs ls h1 h2 hw hl hL) (fun q => hf q H locs ls h1 h2 hw hl hL)
  · exact lv_icmp_le hx hb hd htg (fun q => ht q H locs ls h1 h2 hw hl hL) (fun q => hf q H locs ls h1 h2 hw hl hL)
theorem sd_if0 (C : ipX p s m args meth c D aC B0 bb cb sc mid) : ru_if0 sc call mid MC MS Q (ipJ p l e R s m args below meth c Z D aC B0 bb cb (ipM mid) MC MS) := by
  intro pc lv st h z k n cd off len a b x hat ht hf H locs ls h1 h2 hw hl hL
  obtain ⟨hd, hlk, hlen⟩ := ipAt_all hat
  obtain ⟨hx, hb, hml, hown, hts, hK, -⟩ := C
  have e : len = 3 := hlen (Nat.succ_ne_zero _)
  subst e
  have htg : (pc : Int) + off = (a : Int) := of_decide_eq_true hlk
  cases cd
  · exact lv_if_eq hx hb hd htg (fun q => ht q H locs ls h1 h2 hw hl hL) (fun q => hf q H locs ls h1 h2 hw hl hL)
  · exact lv_if_ne hx hb hd htg (fun q => ht q H locs ls h1 h2 hw hl hL) (fun q => hf (fun r => r q) H locs ls h1 h2 hw hl hL)
  · exact lv_if_lt hx hb hd htg (fun q => ht q H locs ls h1 h2 hw hl hL) (fun q => hf q H locs ls h1 h2 hw hl hL)
  · exact lv_if_ge hx hb hd htg (fun q => ht q H locs ls h1 h2 hw hl hL) (fun q => hf q H locs ls h1 h2 hw hl hL)
  · exact lv_if_gt hx hb hd htg (fun q => ht q H locs ls h1 h2 hw hl hL) (fun q => hf q H locs ls h1 h2 hw hl hL)
  · exact lv_if_le hx hb hd htg (fun q => ht q H locs ls h1 h2 hw hl hL) (fun q => hf q H locs ls h1 h2 hw hl hL)
theorem sd_goto (C : ipX p s m args meth c D aC B0 bb cb sc mid) : ru_goto sc call mid MC MS Q (ipJ p l e R s m args below meth c Z D aC B0 bb cb (ipM mid) MC MS) := by
  intro pc lv st h z k n off len a b hat hk H locs ls h1 h2 hw hl hL
  obtain ⟨hd, hlk, hlen⟩ := ipAt_all hat
  obtain ⟨hx, hb, hml, hown, hts, hK, -⟩ := C
  have e : len = 3 := hlen (Nat.succ_ne_zero _)
  subst e
  exact lv_goto hx hb hd (of_decide_eq_true hlk) (hk H locs ls h1 h2 hw hl hL)
theorem ipTg_eq {pc : Nat} {off : Int} {t : Nat} (h : ipTg pc off = some t) : (pc : Int) + off = (t : Int) := by
  unfold ipTg at h
  split at h
  · cases h
    omega
  · cases h
theorem sd_tab (C : ipX p s m args meth c D aC B0 bb cb sc mid) : ru_tab sc call mid MC MS Q (ipJ p l e R s m args below meth c Z D aC B0 bb cb (ipM mid) MC MS) := by
  intro pc lv st h z k n d lo hi offs len a b tgt x hat ht hk H locs ls h1 h2 hw hl hL
  obtain ⟨hd, hlk, hlen⟩ := ipAt_all hat
  obtain ⟨hx, hb, hml, hown, hts, hK, -⟩ := C
  unfold ipTab at ht
  split at ht
  · rename_i ho
    exact lv_tableOut hx hb hd ho (ipTg_eq ht) (hk H locs ls h1 h2 hw hl hL)
  · rename_i ho
    split at ht
    · rename_i off hoff
      exact lv_tableIn hx hb hd (fun q => ho (Or.inl q)) (fun q => ho (Or.inr q)) hoff (ipTg_eq ht) (hk H locs ls h1 h2 hw hl hL)
    · cases ht
theorem sd_nonnull (C : ipX p s m args meth c D aC B0 bb cb sc mid) : ru_nonnull sc call mid MC MS Q (ipJ p l e R s m args below meth c Z D aC B0 bb cb (ipM mid) MC MS) := by
  intro pc lv st h z k n off len a b r hat hk H locs ls h1 h2 hw hl hL
  obtain ⟨hd, hlk, hlen⟩ := ipAt_all hat
  obtain ⟨hx, hb, hml, hown, hts, hK, -⟩ := C
  have e : len = 3 := hlen (Nat.succ_ne_zero _)
  subst e
  exact lv_ifnonnull hx hb hd (of_decide_eq_true hlk) (hk H locs ls h1 h2 hw hl hL)
theorem sd_isnull (C : ipX p s m args meth c D aC B0 bb cb sc mid) : ru_isnull sc call mid MC MS Q (ipJ p l e R s m args below meth c Z D aC B0 bb cb (ipM mid) MC MS) := by
  intro pc lv st h z k n off len a b hat hk H locs ls h1 h2 hw hl hL
  obtain ⟨hd, hlk, hlen⟩ := ipAt_all hat
  obtain ⟨hx, hb, hml, hown, hts, hK, -⟩ := C
  have e : len = 3 := hlen (Nat.succ_ne_zero _)
  subst e
  exact lv_ifnonnullN hx hb hd (hk H locs ls h1 h2 hw hl hL)
theorem sd_dup (C : ipX p s m args meth c D aC B0 bb cb sc mid) : ru_dup sc call mid MC MS Q (ipJ p l e R s m args below meth c Z D aC B0 bb cb (ipM mid) MC MS) := by
  intro pc lv st h z k n len a b v hat hv hk H locs ls h1 h2 hw hl hL
  obtain ⟨hd, hlk, hlen⟩ := ipAt_all hat
  obtain ⟨hx, hb, hml, hown, hts, hK, -⟩ := C
  have e : len = 1 := hlen (Nat.succ_ne_zero _)
  subst e
  exact lv_dup hx hb hd hv (hk H locs ls h1 h2 hw hl hL)
theorem sd_dup2 (C : ipX p s m args meth c D aC B0 bb cb sc mid) : ru_dup2 sc call mid MC MS Q (ipJ p l e R s m args below meth c Z D aC B0 bb cb (ipM mid) MC MS) := by
  intro pc lv st h z k n len a b v w hat hv hw2 hk H locs ls h1 h2 hw hl hL
  obtain ⟨hd, hlk, hlen⟩ := ipAt_all hat
  obtain ⟨hx, hb, hml, hown, hts, hK, -⟩ := C
  have e : len = 1 := hlen (Nat.succ_ne_zero _)
  subst e
  exact lv_dup2_11 hx hb hd hv hw2 (hk H locs ls h1 h2 hw hl hL)
theorem sd_pop (C : ipX p s m args meth c D aC B0 bb cb sc mid) : ru_pop sc call mid MC MS Q (ipJ p l e R s m args below meth c Z D aC B0 bb cb (ipM mid) MC MS) := by
  intro pc lv st h z k n len a b v hat hv hk H locs ls h1 h2 hw hl hL
  obtain ⟨hd, hlk, hlen⟩ := ipAt_all hat
  obtain ⟨hx, hb, hml, hown, hts, hK, -⟩ := C
  have e : len = 1 := hlen (Nat.succ_ne_zero _)
  subst e
  exact lv_pop hx hb hd hv (hk H locs ls h1 h2 hw hl hL)
end IPS
end
section
/-! the heap's rules, over the machine -/
theorem ipTys_at {aC : Nat → Nat} {t : Nat} (h : t < 7) : (ipTys aC)[t]? = some (aC t, ipATy t) := by
  match t, h with
  | 0, _ => rfl
  | 1, _ => rfl
  | 2, _ => rfl
  | 3, _ => rfl
  | 4, _ => rfl
  | 5, _ => rfl
  | 6, _ => rfl
  | n + 7, h => exact absurd h (by omega)
theorem ipATy_o {t : Nat} (h4 : 4 ≤ t) (h : t < 7) : ipATy t = .object (ipAC t) := by
  match t, h, h4 with
  | 4, _, _ => rfl
  | 5, _, _ => rfl
  | 6, _, _ => rfl
  | 0, _, h => exact absurd h (by omega)
  | 1, _, h => exact absurd h (by omega)
  | 2, _, h => exact absurd h (by omega)
  | 3, _, h => exact absurd h (by omega)
  | n + 7, h, _ => exact absurd h (by omega)
section IPS
variable {p : Program} {l : Launch} {e : Env} {R : Room} {s : State} {m : MethodId} {args : Array Value} {below : List Frame} {meth : Method} {c : Code} {Z : State → Prop} {D : va_G} {aC : Nat → Nat} {B0 bb : Nat} {cb : Cell} {sc : ipSc} {call : ipCall} {mid MC MS : Nat} {Q : ipQ}
theorem sd_getf (C : ipX p s m args meth c D aC B0 bb cb sc mid) : ru_getf sc call mid MC MS Q (ipJ p l e R s m args below meth c Z D aC B0 bb cb (ipM mid) MC MS) := by
  intro pc lv st h z k n x len ci j r fs v hat hr hv hk H locs ls h1 h2 hw hl hL
  obtain ⟨hd, hlk, hlen⟩ := ipAt_all hat
  obtain ⟨hx, hb, hml, hown, hts, hK, -⟩ := C
  have e : len = 3 := hlen (Nat.succ_ne_zero _)
  subst e
  have hin := ipFL_in hlk
  obtain ⟨hci, hj⟩ := ipFL_lt hin
  have hq := hts _ (ipTW_in (ipFL_w _ hin) rfl)
  exact va_get hx hb hts (ipLay hci) hown hK.1 (va_P1 (hw.2.2.2 r _ hr).2) 0 rfl (ipCls hci) j hj hq (fun _ q => q) hv hd (hk H locs ls h1 h2 hw hl hL)
theorem sd_putf (C : ipX p s m args meth c D aC B0 bb cb sc mid) : ru_putf sc call mid MC MS Q (ipJ p l e R s m args below meth c Z D aC B0 bb cb (ipM mid) MC MS) := by
  intro pc lv st h z kq n x len ci k r fs v hat hr hv hfit hk H locs ls h1 h2 hw hl hL
  obtain ⟨hd, hlk, hlen⟩ := ipAt_all hat
  obtain ⟨hx, hb, hml, hown, hts, hK, hmn, hbb, -⟩ := C
  have e : len = 3 := hlen (Nat.succ_ne_zero _)
  subst e
  have hlk2 : (ipFL.contains (ipO mid, x, ci, k) && (!(ipT ci k).2.2.2 || ((ipY mid).name == "<init>" && ci == ipO mid))) = true := hlk
  rw [Bool.and_eq_true] at hlk2
  obtain ⟨hin0, hfin⟩ := hlk2
  have hin := ipFL_in hin0
  obtain ⟨hci, hj⟩ := ipFL_lt hin
  have hq := hts _ (ipTW_in (ipFL_w _ hin) rfl)
  have hP := va_P1 (hw.2.2.2 r _ hr).2
  have hc := ipCls hci
  have hap := va_apart (own := ipCN (ipO mid)) hts (ipLay hci) (ipTyf ci) (ipTyD hci) (ipNm hci) hK.1 hc
  obtain ⟨q0, g1, cell, q1, q2, q3, q4⟩ := hP 0 _ rfl
  have hr0 : q0 = (ipCN ci, ipTf ci, ipN ci) := Option.some.inj (g1.symm.trans hc)
  subst hr0
  obtain ⟨hS, hfc, kC, hkC, hkind⟩ := hK.1.1 ci _ hc
  obtain ⟨cf, kf, fi, f, hi, hsl⟩ := hS k hj
  have hlay := hts _ (ipLay hci _ (u_in_lay hj))
  have hst := (u_facts hfc hkC (u_lays hts (ipLay hci) hj) hi).1
  have fin : ∀ H' : Heap, H'[r]? = some (cell.setSlot (D.2 ci k) v) → H'.size = H.size → (∀ q, q ≠ r → H'[q]? = H[q]?) → ipW D aC B0 bb cb (hup h r (.inr (ci, fs.set k v))) z H' := by
    intro H' e1 e2 e3
    exact hw.put hbb hr e2 e3 ⟨_, hc, t_OB.to (V := updV (vp_V fs) k v) ⟨_, e1, q2, q3, t_set q4 hap hj v⟩ (fun j _ => vp_updV_set hv v j)⟩
  have hd0 := ipTyD hci k hj
  by_cases hF : (ipT ci k).2.2.2 = false
  · unfold u_lay at hlay
    rw [if_neg (by show ¬ (ipT ci k).2.2.2 = true; rw [hF]; decide)] at hlay
    have h6 := u_store hfc hkC hkind hlay hi hd0 hfit.1 hfit.2
    refine W.putK hx hb (f := f) ⟨hown, hq, ⟨_, _, _, hi⟩, hst⟩ (by rw [q2]; exact h6) q1 q3 (by rw [hsl]; exact k2_hasslot (q4 k hj)) rfl rfl hd fun H' e1 e2 e3 => ?_
    rw [hsl] at e1 ⊢
    refine hk H' _ ls h1 h2 (fin H' e1 e2 e3) hl fun q hq2 => ?_
    rcases List.mem_append.mp hq2 with q5 | q5
    · exact hL q q5
    · rw [List.mem_singleton.mp q5]
      exact (hw.2.2.2 r _ hr).1
  · have hF : (ipT ci k).2.2.2 = true := by
      cases hq3 : (ipT ci k).2.2.2
      · exact absurd hq3 hF
      · rfl
    rw [hF] at hfin
    simp only [Bool.not_true, Bool.false_or, Bool.and_eq_true, beq_iff_eq] at hfin
    unfold u_lay at hlay
    rw [if_pos (show (ipTf ci k).2.2.2 = true from hF)] at hlay
    have hdecl : (ipTf ci k).1 = ipCN (ipO mid) := by
      rw [← hfin.2]
      have hall : ((List.range 10).all (fun ci => (List.range (ipN ci)).all (fun k => decide ((ipT ci k).1 = ipCN ci)))) = true := by decide +kernel
      exact of_decide_eq_true (List.all_eq_true.mp (List.all_eq_true.mp hall ci (List.mem_range.mpr hci)) k (List.mem_range.mpr hj))
    have hcf : m.cls = cf := by
      obtain ⟨_, _, c', _, _, _, -, -, hf', -, -, -, hown2, -⟩ := Cond.laysFinal_spec hlay
      have e1 : c' = cf := by have := hi.symm.trans hf'; simp at this; exact this.1.symm
      rw [hdecl] at hown2
      rw [← e1]; exact Option.some.inj (hown.symm.trans hown2)
    have h6 := u_fits hfc hkC hkind (Or.inr hlay) hi hd0 hfit.1 hfit.2
    refine W.putFinK hx hb hown hq hi hst hcf (hmn hfin.1) (by rw [q2]; exact h6) q1 q3 (by rw [hsl]; exact k2_hasslot (q4 k hj)) rfl rfl hd fun H' e1 e2 e3 => ?_
    rw [hsl] at e1 ⊢
    refine hk H' _ ls h1 h2 (fin H' e1 e2 e3) hl fun q hq2 => ?_
    rcases List.mem_append.mp hq2 with q5 | q5
    · exact hL q q5
    · rw [List.mem_singleton.mp q5]
      exact (hw.2.2.2 r _ hr).1
theorem sd_iald (C : ipX p s m args meth c D aC B0 bb cb sc mid) : ru_iald sc call mid MC MS Q (ipJ p l e R s m args below meth c Z D aC B0 bb cb (ipM mid) MC MS) := by
  intro pc lv st h z k n len a b r nn f i hat hr hi hk H locs ls h1 h2 hw hl hL
  obtain ⟨hd, hlk, hlen⟩ := ipAt_all hat
  obtain ⟨hx, hb, hml, hown, hts, hK, -⟩ := C
  have e : len = 1 := hlen (Nat.succ_ne_zero _)
  subst e
  exact va_iald hx hb hK.1 (va_P1 (hw.2.2.2 r _ hr).2) 0 0 rfl rfl hi hd (hk H locs ls h1 h2 hw hl hL)
theorem sd_bald (C : ipX p s m args meth c D aC B0 bb cb sc mid) : ru_bald sc call mid MC MS Q (ipJ p l e R s m args below meth c Z D aC B0 bb cb (ipM mid) MC MS) := by
  intro pc lv st h z k n len a b r nn t f i hat hr ht hi hk H locs ls h1 h2 hw hl hL
  obtain ⟨hd, hlk, hlen⟩ := ipAt_all hat
  obtain ⟨hx, hb, hml, hown, hts, hK, -⟩ := C
  have e : len = 1 := hlen (Nat.succ_ne_zero _)
  subst e
  rcases ht with rfl | rfl
  · exact va_bald hx hb hK.1 (va_P1 (hw.2.2.2 r _ hr).2) 0 2 rfl rfl hi hd (hk H locs ls h1 h2 hw hl hL)
  · exact va_zald hx hb hK.1 (va_P1 (hw.2.2.2 r _ hr).2) 0 3 rfl rfl hi hd (hk H locs ls h1 h2 hw hl hL)
theorem sd_lald (C : ipX p s m args meth c D aC B0 bb cb sc mid) : ru_lald sc call mid MC MS Q (ipJ p l e R s m args below meth c Z D aC B0 bb cb (ipM mid) MC MS) := by
  intro pc lv st h z k n len a b r nn f i hat hr hi hk H locs ls h1 h2 hw hl hL
  obtain ⟨hd, hlk, hlen⟩ := ipAt_all hat
  obtain ⟨hx, hb, hml, hown, hts, hK, -⟩ := C
  have e : len = 1 := hlen (Nat.succ_ne_zero _)
  subst e
  exact va_lald hx hb hK.1 (va_P1 (hw.2.2.2 r _ hr).2) 0 1 rfl rfl hi hd (hk H locs ls h1 h2 hw hl hL)
theorem sd_aald (C : ipX p s m args meth c D aC B0 bb cb sc mid) : ru_aald sc call mid MC MS Q (ipJ p l e R s m args below meth c Z D aC B0 bb cb (ipM mid) MC MS) := by
  intro pc lv st h z k n len a b r nn t f i hat hr ht hi hk H locs ls h1 h2 hw hl hL
  obtain ⟨hd, hlk, hlen⟩ := ipAt_all hat
  obtain ⟨hx, hb, hml, hown, hts, hK, -⟩ := C
  have e : len = 1 := hlen (Nat.succ_ne_zero _)
  subst e
  rcases ht with rfl | rfl | rfl
  · exact va_aldq hx hb hK.1 (va_P1 (hw.2.2.2 r _ hr).2) 0 4 rfl rfl hi hd (hk H locs ls h1 h2 hw hl hL)
  · exact va_aldq hx hb hK.1 (va_P1 (hw.2.2.2 r _ hr).2) 0 5 rfl rfl hi hd (hk H locs ls h1 h2 hw hl hL)
  · exact va_aldq hx hb hK.1 (va_P1 (hw.2.2.2 r _ hr).2) 0 6 rfl rfl hi hd (hk H locs ls h1 h2 hw hl hL)
theorem sd_sald (C : ipX p s m args meth c D aC B0 bb cb sc mid) : ru_sald sc call mid MC MS Q (ipJ p l e R s m args below meth c Z D aC B0 bb cb (ipM mid) MC MS) := by
  intro pc lv st h z k n len a b i hat hi hk H locs ls h1 h2 hw hl hL
  obtain ⟨hd, hlk, hlen⟩ := ipAt_all hat
  obtain ⟨hx, hb, hml, hown, hts, hK, -, -, hbe⟩ := C
  have e : len = 1 := hlen (Nat.succ_ne_zero _)
  subst e
  obtain ⟨-, ⟨g2, g3, g4, g5⟩, -⟩ := hK
  have hlt : i.toNatClampNeg < sc.2.1 := Nat.not_le.mp fun q => hi (Or.inr q)
  exact W.iald (v := .int (sc.2.2 i.toNatClampNeg)) hx hb (by rw [hbe]; exact hw.2.1) g2 g3 (by rw [g4]; exact hi) (g5 _ hlt) rfl rfl hd (hk H locs ls h1 h2 hw hl hL)
theorem sd_alen (C : ipX p s m args meth c D aC B0 bb cb sc mid) : ru_alen sc call mid MC MS Q (ipJ p l e R s m args below meth c Z D aC B0 bb cb (ipM mid) MC MS) := by
  intro pc lv st h z k n len a b r t x hat hr ht hk H locs ls h1 h2 hw hl hL
  obtain ⟨hd, hlk, hlen⟩ := ipAt_all hat
  obtain ⟨hx, hb, hml, hown, hts, hK, -⟩ := C
  have e : len = 1 := hlen (Nat.succ_ne_zero _)
  subst e
  exact va_alen hx hb hK.1 (va_P1 (hw.2.2.2 r _ hr).2) 0 t rfl (ipTys_at ht) rfl hd (hk H locs ls h1 h2 hw hl hL)
theorem sd_slen (C : ipX p s m args meth c D aC B0 bb cb sc mid) : ru_slen sc call mid MC MS Q (ipJ p l e R s m args below meth c Z D aC B0 bb cb (ipM mid) MC MS) := by
  intro pc lv st h z k n len a b hat hk H locs ls h1 h2 hw hl hL
  obtain ⟨hd, hlk, hlen⟩ := ipAt_all hat
  obtain ⟨hx, hb, hml, hown, hts, hK, -, -, hbe⟩ := C
  have e : len = 1 := hlen (Nat.succ_ne_zero _)
  subst e
  obtain ⟨-, ⟨g2, g3, g4, g5⟩, -⟩ := hK
  exact W.alen (n := Int32.ofNat sc.2.1) hx hb (by rw [hbe]; exact hw.2.1) g2 (by rw [g4] <;> rfl) rfl rfl hd (hk H locs ls h1 h2 hw hl hL)
theorem ipLoc {locs : List Loc} {r j : Nat} (hL : ∀ q ∈ locs, B0 ≤ q.base) (hr : B0 ≤ r) : ∀ q ∈ locs ++ [⟨r, j⟩], B0 ≤ q.base := fun q hq => by
  rcases List.mem_append.mp hq with q5 | q5
  · exact hL q q5
  · rw [List.mem_singleton.mp q5]
    exact hr
theorem sd_iast (C : ipX p s m args meth c D aC B0 bb cb sc mid) : ru_iast sc call mid MC MS Q (ipJ p l e R s m args below meth c Z D aC B0 bb cb (ipM mid) MC MS) := by
  intro pc lv st h z k n len a b r nn f i x hat hr hi hk H locs ls h1 h2 hw hl hL
  obtain ⟨hd, hlk, hlen⟩ := ipAt_all hat
  obtain ⟨hx, hb, hml, hown, hts, hK, -, hbb, -⟩ := C
  have e : len = 1 := hlen (Nat.succ_ne_zero _)
  subst e
  obtain ⟨hB, hat2⟩ := hw.2.2.2 r _ hr
  refine W.iast hx hb hat2 ((hK.1.2 0 _ rfl).1 nn (fun j => .int (f j))) (fun q => by cases q) (by show ¬ (i < 0 ∨ (arrV _ _ _).slots.size ≤ _); rw [arrV_size]; exact hi) rfl rfl hd fun H1 e z1 oq => ?_
  refine hk H1 _ ls h1 h2 (hw.put hbb hr z1 oq ?_) hl (ipLoc hL hB)
  show H1[r]? = some (vp_cell _ _)
  rw [e]
  rw [vp_cell_i, vp_cell_i, arrV_store]
  congr 2
  funext q
  by_cases hq : q = i.toNatClampNeg
  · subst hq
    simp [updV, upd]
  · simp [updV, upd, hq]
theorem sd_bast (C : ipX p s m args meth c D aC B0 bb cb sc mid) : ru_bast sc call mid MC MS Q (ipJ p l e R s m args below meth c Z D aC B0 bb cb (ipM mid) MC MS) := by
  intro pc lv st h z k n len a b r nn f i x hat hr hi hk H locs ls h1 h2 hw hl hL
  obtain ⟨hd, hlk, hlen⟩ := ipAt_all hat
  obtain ⟨hx, hb, hml, hown, hts, hK, -, hbb, -⟩ := C
  have e : len = 1 := hlen (Nat.succ_ne_zero _)
  subst e
  obtain ⟨hB, hat2⟩ := hw.2.2.2 r _ hr
  refine W.bast hx hb hat2 ((hK.1.2 2 _ rfl).1 nn (fun j => .int (f j))) (fun q => by cases q) (by show ¬ (i < 0 ∨ (arrV _ _ _).slots.size ≤ _); rw [arrV_size]; exact hi) rfl rfl hd fun H1 e z1 oq => ?_
  refine hk H1 _ ls h1 h2 (hw.put hbb hr z1 oq ?_) hl (ipLoc hL hB)
  show H1[r]? = some (vp_cell _ _)
  rw [e]
  rw [vp_cell_i, vp_cell_i, arrV_store]
  congr 2
  funext q
  by_cases hq : q = i.toNatClampNeg
  · subst hq
    simp [updV, upd, vp_nar]
    try rfl
  · simp [updV, upd, hq]
theorem sd_zast (C : ipX p s m args meth c D aC B0 bb cb sc mid) : ru_zast sc call mid MC MS Q (ipJ p l e R s m args below meth c Z D aC B0 bb cb (ipM mid) MC MS) := by
  intro pc lv st h z k n len a b r nn f i x hat hr hi hk H locs ls h1 h2 hw hl hL
  obtain ⟨hd, hlk, hlen⟩ := ipAt_all hat
  obtain ⟨hx, hb, hml, hown, hts, hK, -, hbb, -⟩ := C
  have e : len = 1 := hlen (Nat.succ_ne_zero _)
  subst e
  obtain ⟨hB, hat2⟩ := hw.2.2.2 r _ hr
  refine W.zast hx hb hat2 ((hK.1.2 3 _ rfl).1 nn (fun j => .int (f j))) (fun q => by cases q) (by show ¬ (i < 0 ∨ (arrV _ _ _).slots.size ≤ _); rw [arrV_size]; exact hi) rfl rfl hd fun H1 e z1 oq => ?_
  refine hk H1 _ ls h1 h2 (hw.put hbb hr z1 oq ?_) hl (ipLoc hL hB)
  show H1[r]? = some (vp_cell _ _)
  rw [e]
  rw [vp_cell_i, vp_cell_i, arrV_store]
  congr 2
  funext q
  by_cases hq : q = i.toNatClampNeg
  · subst hq
    simp [updV, upd, vp_nar]
    try rfl
  · simp [updV, upd, hq]
theorem sd_last (C : ipX p s m args meth c D aC B0 bb cb sc mid) : ru_last sc call mid MC MS Q (ipJ p l e R s m args below meth c Z D aC B0 bb cb (ipM mid) MC MS) := by
  intro pc lv st h z k n len a b r nn f i x hat hr hi hk H locs ls h1 h2 hw hl hL
  obtain ⟨hd, hlk, hlen⟩ := ipAt_all hat
  obtain ⟨hx, hb, hml, hown, hts, hK, -, hbb, -⟩ := C
  have e : len = 1 := hlen (Nat.succ_ne_zero _)
  subst e
  obtain ⟨hB, hat2⟩ := hw.2.2.2 r _ hr
  refine W.last hx hb hat2 ((hK.1.2 1 _ rfl).1 nn (fun j => .long (f j))) (fun q => by cases q) (by show ¬ (i < 0 ∨ (arrV _ _ _).slots.size ≤ _); rw [arrV_size]; exact hi) rfl rfl hd fun H1 e z1 oq => ?_
  refine hk H1 _ ls h1 h2 (hw.put hbb hr z1 oq ?_) hl (ipLoc hL hB)
  show H1[r]? = some (vp_cell _ _)
  rw [e]
  rw [vp_cell_l, vp_cell_l, arrV_store]
  congr 2
  funext q
  by_cases hq : q = i.toNatClampNeg
  · subst hq
    simp [updV, vp_updL]
  · simp [updV, vp_updL, hq]
theorem ipElt_ok {t : Nat} (ht : t = 4 ∨ t = 5 ∨ t = 6) : ipElt t < 10 ∧ ipCN (ipElt t) = ipAC t ∧ t < 7 ∧ 4 ≤ t := by
  rcases ht with rfl | rfl | rfl
  · exact ⟨by decide, rfl, by decide, by decide⟩
  · exact ⟨by decide, rfl, by decide, by decide⟩
  · exact ⟨by decide, rfl, by decide, by decide⟩
theorem sd_aast (C : ipX p s m args meth c D aC B0 bb cb sc mid) : ru_aast sc call mid MC MS Q (ipJ p l e R s m args below meth c Z D aC B0 bb cb (ipM mid) MC MS) := by
  intro pc lv st h z k n len a b r nn t v vs f i hat hr ht hv hi hk H locs ls h1 h2 hw hl hL
  obtain ⟨hd, hlk, hlen⟩ := ipAt_all hat
  obtain ⟨hx, hb, hml, hown, hts, hK, -, hbb, -⟩ := C
  have e : len = 1 := hlen (Nat.succ_ne_zero _)
  subst e
  obtain ⟨hB, hat2⟩ := hw.2.2.2 r _ hr
  obtain ⟨hE1, hE2, hE3, hE4⟩ := ipElt_ok ht
  have hlt : i.toNatClampNeg < nn := Nat.not_le.mp fun q => hi (Or.inr q)
  have h0 : ¬ i < 0 := fun q => hi (Or.inl q)
  obtain ⟨r', hr', cellV, g1, g2, g3, -⟩ := (hw.2.2.2 v _ hv).2
  have hc := ipCls hE1
  have hcls := (hK.1.1 (ipElt t) _ hc).2
  have hty := ipTys_at (aC := aC) hE3
  rw [ipATy_o hE4 hE3] at hty
  obtain ⟨kA, comp, k1, k2, k3, -⟩ := (hK.1.2 t _ hty).2
  rw [← hE2] at k3
  have hcomp : comp = D.1 (ipElt t) := Option.some.inj (k3.symm.trans hcls.1)
  subst hcomp
  obtain ⟨kC, hkC, -⟩ := hcls.2
  refine W.aast hx hb hat2 (fun q h => by cases h) (fun h => by cases h) k1 k2 rfl hkC ⟨h0, by show _ < (arrV _ _ _).slots.size; rw [arrV_size]; exact hlt⟩ g1 (fun q h => by rw [g3] at h; cases h) (by rw [g2]; exact hkC) (by rw [g2]; exact va_assign hcls) rfl rfl hd fun H1 e z1 oq => ?_
  refine hk H1 _ ls h1 h2 (hw.put hbb hr z1 oq ?_) hl (ipLoc hL hB)
  show H1[r]? = some (vp_cell _ _)
  rw [e]
  rw [vp_cell_q, vp_cell_q, arrV_store]
  congr 2
  funext q
  by_cases hq : q = i.toNatClampNeg
  · subst hq
    simp [updV, va_up, va_rf]
  · simp [updV, va_up, hq]
set_option maxRecDepth 100000 in
theorem ipCL_r : ipCL.all (fun q => decide (q.2.2 < 10) && (decide (Cond.instantiable (ipCN q.2.2) (ipN q.2.2) ∈ lw_tbl) && decide (Cond.initialized (ipCN q.2.2) ∈ lw_tbl))) = true := by decide +kernel
theorem ipDef_V {ci j : Nat} (hj : j < ipN ci) : defaultValue (ipTyf ci j) = vp_V (ipDef ci) j := by
  unfold vp_V ipDef
  rw [List.getD_eq_getElem?_getD, List.getElem?_map, List.getElem?_range hj]
  rfl
theorem sd_new (C : ipX p s m args meth c D aC B0 bb cb sc mid) (hR : R.cells = MC ∧ R.slots = MS) : ru_new sc call mid MC MS Q (ipJ p l e R s m args below meth c Z D aC B0 bb cb (ipM mid) MC MS) := by
  intro pc lv st h z k n x len ci b hat hc1 hs1 hk H locs ls h1 h2 hw hl hL
  obtain ⟨hd, hlk, hlen⟩ := ipAt_all hat
  obtain ⟨hx, hb, hml, hown, hts, hK, -, hbb, -⟩ := C
  have e : len = 3 := hlen (Nat.succ_ne_zero _)
  subst e
  have hin : (ipO mid, x, ci) ∈ ipCL := List.contains_iff_mem.mp hlk
  have hr := List.all_eq_true.mp ipCL_r _ hin
  simp only [Bool.and_eq_true, decide_eq_true_eq] at hr
  obtain ⟨hci, hr1, hr2⟩ := hr
  have hc := ipCls hci
  have hKn := hK.1.1 ci _ hc
  refine W.newcK hx hb hown (hts _ (ipTW_in (ipCL_w _ hin) rfl)) (hts _ (ipTW_in hr1 rfl)) (hts _ (ipTW_in hr2 rfl)) rfl hd (by rw [hR.1]; exact hc1) (by rw [hR.2]; exact hs1) hKn.2.1 hw.1 fun H1 kC hkC e1 z1 o1 => ?_
  exact hk H1 locs ls hc1 hs1 (hw.push hbb z1 o1 ⟨_, hc, (u_born (ipTyf ci) hts (ipLay hci) hKn hkC e1 (ipTyD hci)).to (fun j hj => ipDef_V hj)⟩) hl hL
theorem ipArr_cell {t N cA : Nat} (h : t < 4) : vp_cell cA (ipArr t N) = arrV cA N (fun _ => defaultValue (ipATy t)) := by
  match t, h with
  | 0, _ => rfl
  | 1, _ => rfl
  | 2, _ => rfl
  | 3, _ => rfl
  | n + 4, h => exact absurd h (by omega)
theorem ipNA_w : ∀ t, t < 4 → Cond.arrayClass (ipATy t) ∈ lw_tbl := by
  have h : (List.range 4).all (fun t => decide (Cond.arrayClass (ipATy t) ∈ lw_tbl)) = true := by decide +kernel
  exact fun t ht => of_decide_eq_true (List.all_eq_true.mp h t (List.mem_range.mpr ht))
theorem ipComp {t : Nat} (h : t < 4) : componentBytes (ipATy t) ≤ 8 := by
  match t, h with
  | 0, _ => decide
  | 1, _ => decide
  | 2, _ => decide
  | 3, _ => decide
  | n + 4, h => exact absurd h (by omega)
theorem sd_newa (C : ipX p s m args meth c D aC B0 bb cb sc mid) (hR : R.cells = MC ∧ R.slots = MS) : ru_newa sc call mid MC MS Q (ipJ p l e R s m args below meth c Z D aC B0 bb cb (ipM mid) MC MS) := by
  intro pc lv st h z k n at0 len t b N nn hat hn hN hby hc1 hs1 hk H locs ls h1 h2 hw hl hL
  obtain ⟨hd, hlk, hlen⟩ := ipAt_all hat
  obtain ⟨hx, hb, hml, hown, hts, hK, -, hbb, -⟩ := C
  have e : len = 2 := hlen (Nat.succ_ne_zero _)
  subst e
  have hlk2 : (decide (newarray.typeOf at0 = ipATy t) && decide (t < 4)) = true := hlk
  simp only [Bool.and_eq_true, decide_eq_true_eq] at hlk2
  obtain ⟨ht, ht4⟩ := hlk2
  have hw1 : (Cond.arrayClass (newarray.typeOf at0)).before args s = true := by rw [ht]; exact hts _ (ipTW_in (ipNA_w t ht4) rfl)
  refine va_newaK hx hb hw1 rfl hd rfl hn hN (by rw [ht]; exact Nat.le_trans (Nat.mul_le_mul_left N (ipComp ht4)) hby) (by rw [hR.1]; exact hc1) (by rw [hR.2]; exact hs1) hw.1 fun H1 cA e1 z1 o1 hAr hNm => ?_
  have hra := (hK.1.2 t _ (ipTys_at (aC := aC) (by omega))).2
  have hcA : cA = aC t := by
    rw [ht] at hNm
    have : s.vm.findClass ("[" ++ (ipATy t).toString) = some (aC t) := by
      match t, ht4, hra with
      | 0, _, hra => exact hra
      | 1, _, hra => exact hra
      | 2, _, hra => exact hra
      | 3, _, hra => exact hra
      | n + 4, h, _ => exact absurd h (by omega)
    exact Option.some.inj (hNm.symm.trans this)
  subst hcA
  refine hk H1 locs ls hc1 hs1 (hw.push hbb z1 o1 ?_) hl hL
  show H1[z]? = some (vp_cell (aC t) (ipArr t N))
  rw [ipArr_cell ht4, e1, ht]
set_option maxRecDepth 100000 in
theorem ipAL_r : ipAL.all (fun q => decide (4 ≤ q.2.2) && decide (q.2.2 < 7)) = true := by decide +kernel
theorem sd_newq (C : ipX p s m args meth c D aC B0 bb cb sc mid) (hR : R.cells = MC ∧ R.slots = MS) : ru_newq sc call mid MC MS Q (ipJ p l e R s m args below meth c Z D aC B0 bb cb (ipM mid) MC MS) := by
  intro pc lv st h z k n x len t b N nn hat hn hN hby hc1 hs1 hk H locs ls h1 h2 hw hl hL
  obtain ⟨hd, hlk, hlen⟩ := ipAt_all hat
  obtain ⟨hx, hb, hml, hown, hts, hK, -, hbb, -⟩ := C
  have e : len = 3 := hlen (Nat.succ_ne_zero _)
  subst e
  have hin : (ipO mid, x, t) ∈ ipAL := List.contains_iff_mem.mp hlk
  have hr := List.all_eq_true.mp ipAL_r _ hin
  simp only [Bool.and_eq_true, decide_eq_true_eq] at hr
  obtain ⟨ht4, ht7⟩ := hr
  subst hN
  refine W.anew hx hb hown (hts _ (ipTW_in (ipAL_w _ hin) rfl)) (va_AO.use (hK.2.2.2 t ht4 ht7)) rfl hd rfl hn (by omega) (by rw [hR.1]; exact hc1) (by rw [hR.2]; exact hs1) fun cA kA comp f1 f2 f3 f4 => ?_
  have hty := ipTys_at (aC := aC) ht7
  rw [ipATy_o ht4 ht7] at hty
  obtain ⟨kA', comp', k1, k2, k3, k4⟩ := (hK.1.2 t _ hty).2
  have hcA : cA = aC t := Option.some.inj (f1.symm.trans k4)
  subst hcA
  generalize hH1 : H.push ({ cls := aC t, slots := Array.replicate nn.toNatClampNeg .null, vm := .none } : Cell) = H1
  have z1 : H1.size = H.size + 1 := by rw [← hH1, Array.size_push]
  have e1 : H1[H.size]? = some (arrV (aC t) nn.toNatClampNeg (fun _ => .null)) := by rw [← hH1, Array.getElem?_push_size, ← arrV_new]
  have o1 : ∀ q : Nat, q < H.size → H1[q]? = H[q]? := fun q hq => by rw [← hH1, Array.getElem?_push, if_neg (Nat.ne_of_lt hq)]
  have hz := hw.1
  subst hz
  refine hk H1 locs ls hc1 hs1 (hw.push hbb z1 o1 ?_) hl hL
  show H1[H.size]? = some (vp_cell _ _)
  rw [e1]
  rfl
end IPS
end
section
/-! the words of the methods, by their places in the tables -/
theorem ipzL {α : Type} (P : α → Cond) : ∀ (l : List α) (is : List Nat), (l.zip is).all (fun q => decide (lw_tbl[q.2]? = some (P q.1))) = true → l.length ≤ is.length → ∀ q ∈ l, P q ∈ lw_tbl
  | [], _, _, _, q, hq => by cases hq
  | x :: l, [], _, h2, q, hq => by simp at h2
  | x :: l, i :: is, h1, h2, q, hq => by
    rw [List.zip_cons_cons, List.all_cons, Bool.and_eq_true] at h1
    rcases List.mem_cons.mp hq with rfl | hq
    · exact List.mem_of_getElem? (of_decide_eq_true h1.1)
    · exact ipzL P l is h1.2 (by simpa using h2) q hq
def ipVM : List Nat := [1, 2, 3, 4, 5, 7, 8, 9, 11, 12, 13, 15, 16, 17, 18, 19, 20, 21, 22, 23, 24, 25, 26, 28, 30, 31, 32, 33, 34, 36, 37, 38, 39, 40, 41, 42, 43, 44, 45, 46, 47, 48, 49, 50, 51, 52, 53, 54, 55, 56, 57, 58, 59, 60, 61, 62, 63, 64, 66, 67, 68, 69, 70, 71, 72, 74, 75, 76, 77, 78, 79, 80, 81, 82, 83, 84, 85, 86, 87, 88, 89, 90, 92, 94, 96, 97, 98, 99, 100, 101, 102, 103, 104, 105, 106, 107, 108, 109, 110, 111, 112, 113, 114, 115, 116, 117, 118, 119, 120, 121, 122, 123, 124, 125, 126, 127, 128, 129, 130, 131, 132, 133, 134, 135, 136, 137, 138, 139, 140, 141, 142, 144, 145, 146, 147, 148, 149, 150]
def ipIM : List Nat := [0, 6, 10, 14, 27, 29, 35, 65, 73, 91]
set_option maxRecDepth 100000 in
theorem ipCodeX_0 : lw_tbl[68]? = some (Cond.code (ipY 0) (ipB 0) (ipM 0) (ipR 0)) := rfl
set_option maxRecDepth 100000 in
theorem ipCodeX_1 : lw_tbl[261]? = some (Cond.code (ipY 1) (ipB 1) (ipM 1) (ipR 1)) := rfl
set_option maxRecDepth 100000 in
theorem ipCodeX_2 : lw_tbl[208]? = some (Cond.code (ipY 2) (ipB 2) (ipM 2) (ipR 2)) := rfl
set_option maxRecDepth 100000 in
theorem ipCodeX_3 : lw_tbl[331]? = some (Cond.code (ipY 3) (ipB 3) (ipM 3) (ipR 3)) := rfl
set_option maxRecDepth 100000 in
theorem ipCodeX_4 : lw_tbl[415]? = some (Cond.code (ipY 4) (ipB 4) (ipM 4) (ipR 4)) := rfl
set_option maxRecDepth 100000 in
theorem ipCodeX_5 : lw_tbl[706]? = some (Cond.code (ipY 5) (ipB 5) (ipM 5) (ipR 5)) := rfl
set_option maxRecDepth 100000 in
theorem ipCodeX_6 : lw_tbl[510]? = some (Cond.code (ipY 6) (ipB 6) (ipM 6) (ipR 6)) := rfl
set_option maxRecDepth 100000 in
theorem ipCodeX_7 : lw_tbl[648]? = some (Cond.code (ipY 7) (ipB 7) (ipM 7) (ipR 7)) := rfl
set_option maxRecDepth 100000 in
theorem ipCodeX_8 : lw_tbl[644]? = some (Cond.code (ipY 8) (ipB 8) (ipM 8) (ipR 8)) := rfl
set_option maxRecDepth 100000 in
theorem ipCodeX_9 : lw_tbl[680]? = some (Cond.code (ipY 9) (ipB 9) (ipM 9) (ipR 9)) := rfl
set_option maxRecDepth 100000 in
theorem ipCodeX_10 : lw_tbl[81]? = some (Cond.code (ipY 10) (ipB 10) (ipM 10) (ipR 10)) := rfl
set_option maxRecDepth 100000 in
theorem ipCodeX_11 : lw_tbl[378]? = some (Cond.code (ipY 11) (ipB 11) (ipM 11) (ipR 11)) := rfl
set_option maxRecDepth 100000 in
theorem ipCodeX_12 : lw_tbl[370]? = some (Cond.code (ipY 12) (ipB 12) (ipM 12) (ipR 12)) := rfl
set_option maxRecDepth 100000 in
theorem ipCodeX_13 : lw_tbl[407]? = some (Cond.code (ipY 13) (ipB 13) (ipM 13) (ipR 13)) := rfl
set_option maxRecDepth 100000 in
theorem ipCodeX_14 : lw_tbl[461]? = some (Cond.code (ipY 14) (ipB 14) (ipM 14) (ipR 14)) := rfl
set_option maxRecDepth 100000 in
theorem ipCodeX_15 : lw_tbl[586]? = some (Cond.code (ipY 15) (ipB 15) (ipM 15) (ipR 15)) := rfl
set_option maxRecDepth 100000 in
theorem ipCodeX_16 : lw_tbl[590]? = some (Cond.code (ipY 16) (ipB 16) (ipM 16) (ipR 16)) := rfl
set_option maxRecDepth 100000 in
theorem ipCodeX_17 : lw_tbl[594]? = some (Cond.code (ipY 17) (ipB 17) (ipM 17) (ipR 17)) := rfl
set_option maxRecDepth 100000 in
theorem ipCodeX_18 : lw_tbl[632]? = some (Cond.code (ipY 18) (ipB 18) (ipM 18) (ipR 18)) := rfl
set_option maxRecDepth 100000 in
theorem ipCodeX_19 : lw_tbl[602]? = some (Cond.code (ipY 19) (ipB 19) (ipM 19) (ipR 19)) := rfl
set_option maxRecDepth 100000 in
theorem ipCodeX_20 : lw_tbl[620]? = some (Cond.code (ipY 20) (ipB 20) (ipM 20) (ipR 20)) := rfl
set_option maxRecDepth 100000 in
theorem ipCodeX_21 : lw_tbl[606]? = some (Cond.code (ipY 21) (ipB 21) (ipM 21) (ipR 21)) := rfl
set_option maxRecDepth 100000 in
theorem ipCodeX_22 : lw_tbl[615]? = some (Cond.code (ipY 22) (ipB 22) (ipM 22) (ipR 22)) := rfl
set_option maxRecDepth 100000 in
theorem ipCodeX_23 : lw_tbl[610]? = some (Cond.code (ipY 23) (ipB 23) (ipM 23) (ipR 23)) := rfl
set_option maxRecDepth 100000 in
theorem ipCodeX_24 : lw_tbl[624]? = some (Cond.code (ipY 24) (ipB 24) (ipM 24) (ipR 24)) := rfl
set_option maxRecDepth 100000 in
theorem ipCodeX_25 : lw_tbl[628]? = some (Cond.code (ipY 25) (ipB 25) (ipM 25) (ipR 25)) := rfl
set_option maxRecDepth 100000 in
theorem ipCodeX_26 : lw_tbl[636]? = some (Cond.code (ipY 26) (ipB 26) (ipM 26) (ipR 26)) := rfl
set_option maxRecDepth 100000 in
theorem ipCodeX_27 : lw_tbl[74]? = some (Cond.code (ipY 27) (ipB 27) (ipM 27) (ipR 27)) := rfl
set_option maxRecDepth 100000 in
theorem ipCodeX_28 : lw_tbl[697]? = some (Cond.code (ipY 28) (ipB 28) (ipM 28) (ipR 28)) := rfl
set_option maxRecDepth 100000 in
theorem ipCodeX_29 : lw_tbl[438]? = some (Cond.code (ipY 29) (ipB 29) (ipM 29) (ipR 29)) := rfl
set_option maxRecDepth 100000 in
theorem ipCodeX_30 : lw_tbl[570]? = some (Cond.code (ipY 30) (ipB 30) (ipM 30) (ipR 30)) := rfl
set_option maxRecDepth 100000 in
theorem ipCodeX_31 : lw_tbl[574]? = some (Cond.code (ipY 31) (ipB 31) (ipM 31) (ipR 31)) := rfl
set_option maxRecDepth 100000 in
theorem ipCodeX_32 : lw_tbl[598]? = some (Cond.code (ipY 32) (ipB 32) (ipM 32) (ipR 32)) := rfl
set_option maxRecDepth 100000 in
theorem ipCodeX_33 : lw_tbl[578]? = some (Cond.code (ipY 33) (ipB 33) (ipM 33) (ipR 33)) := rfl
set_option maxRecDepth 100000 in
theorem ipCodeX_34 : lw_tbl[582]? = some (Cond.code (ipY 34) (ipB 34) (ipM 34) (ipR 34)) := rfl
set_option maxRecDepth 100000 in
theorem ipCodeX_35 : lw_tbl[135]? = some (Cond.code (ipY 35) (ipB 35) (ipM 35) (ipR 35)) := rfl
set_option maxRecDepth 100000 in
theorem ipCodeX_36 : lw_tbl[269]? = some (Cond.code (ipY 36) (ipB 36) (ipM 36) (ipR 36)) := rfl
set_option maxRecDepth 100000 in
theorem ipCodeX_37 : lw_tbl[281]? = some (Cond.code (ipY 37) (ipB 37) (ipM 37) (ipR 37)) := rfl
set_option maxRecDepth 100000 in
theorem ipCodeX_38 : lw_tbl[299]? = some (Cond.code (ipY 38) (ipB 38) (ipM 38) (ipR 38)) := rfl
set_option maxRecDepth 100000 in
theorem ipCodeX_39 : lw_tbl[273]? = some (Cond.code (ipY 39) (ipB 39) (ipM 39) (ipR 39)) := rfl
set_option maxRecDepth 100000 in
theorem ipCodeX_40 : lw_tbl[287]? = some (Cond.code (ipY 40) (ipB 40) (ipM 40) (ipR 40)) := rfl
set_option maxRecDepth 100000 in
theorem ipCodeX_41 : lw_tbl[291]? = some (Cond.code (ipY 41) (ipB 41) (ipM 41) (ipR 41)) := rfl
set_option maxRecDepth 100000 in
theorem ipCodeX_42 : lw_tbl[305]? = some (Cond.code (ipY 42) (ipB 42) (ipM 42) (ipR 42)) := rfl
set_option maxRecDepth 100000 in
theorem ipCodeX_43 : lw_tbl[327]? = some (Cond.code (ipY 43) (ipB 43) (ipM 43) (ipR 43)) := rfl
set_option maxRecDepth 100000 in
theorem ipCodeX_44 : lw_tbl[322]? = some (Cond.code (ipY 44) (ipB 44) (ipM 44) (ipR 44)) := rfl
set_option maxRecDepth 100000 in
theorem ipCodeX_45 : lw_tbl[317]? = some (Cond.code (ipY 45) (ipB 45) (ipM 45) (ipR 45)) := rfl
set_option maxRecDepth 100000 in
theorem ipCodeX_46 : lw_tbl[383]? = some (Cond.code (ipY 46) (ipB 46) (ipM 46) (ipR 46)) := rfl
set_option maxRecDepth 100000 in
theorem ipCodeX_47 : lw_tbl[387]? = some (Cond.code (ipY 47) (ipB 47) (ipM 47) (ipR 47)) := rfl
set_option maxRecDepth 100000 in
theorem ipCodeX_48 : lw_tbl[396]? = some (Cond.code (ipY 48) (ipB 48) (ipM 48) (ipR 48)) := rfl
set_option maxRecDepth 100000 in
theorem ipCodeX_49 : lw_tbl[216]? = some (Cond.code (ipY 49) (ipB 49) (ipM 49) (ipR 49)) := rfl
set_option maxRecDepth 100000 in
theorem ipCodeX_50 : lw_tbl[220]? = some (Cond.code (ipY 50) (ipB 50) (ipM 50) (ipR 50)) := rfl
set_option maxRecDepth 100000 in
theorem ipCodeX_51 : lw_tbl[212]? = some (Cond.code (ipY 51) (ipB 51) (ipM 51) (ipR 51)) := rfl
set_option maxRecDepth 100000 in
theorem ipCodeX_52 : lw_tbl[339]? = some (Cond.code (ipY 52) (ipB 52) (ipM 52) (ipR 52)) := rfl
set_option maxRecDepth 100000 in
theorem ipCodeX_53 : lw_tbl[562]? = some (Cond.code (ipY 53) (ipB 53) (ipM 53) (ipR 53)) := rfl
set_option maxRecDepth 100000 in
theorem ipCodeX_54 : lw_tbl[335]? = some (Cond.code (ipY 54) (ipB 54) (ipM 54) (ipR 54)) := rfl
set_option maxRecDepth 100000 in
theorem ipCodeX_55 : lw_tbl[346]? = some (Cond.code (ipY 55) (ipB 55) (ipM 55) (ipR 55)) := rfl
set_option maxRecDepth 100000 in
theorem ipCodeX_56 : lw_tbl[350]? = some (Cond.code (ipY 56) (ipB 56) (ipM 56) (ipR 56)) := rfl
set_option maxRecDepth 100000 in
theorem ipCodeX_57 : lw_tbl[354]? = some (Cond.code (ipY 57) (ipB 57) (ipM 57) (ipR 57)) := rfl
set_option maxRecDepth 100000 in
theorem ipCodeX_58 : lw_tbl[362]? = some (Cond.code (ipY 58) (ipB 58) (ipM 58) (ipR 58)) := rfl
set_option maxRecDepth 100000 in
theorem ipCodeX_59 : lw_tbl[358]? = some (Cond.code (ipY 59) (ipB 59) (ipM 59) (ipR 59)) := rfl
set_option maxRecDepth 100000 in
theorem ipCodeX_60 : lw_tbl[366]? = some (Cond.code (ipY 60) (ipB 60) (ipM 60) (ipR 60)) := rfl
set_option maxRecDepth 100000 in
theorem ipCodeX_61 : lw_tbl[224]? = some (Cond.code (ipY 61) (ipB 61) (ipM 61) (ipR 61)) := rfl
set_option maxRecDepth 100000 in
theorem ipCodeX_62 : lw_tbl[228]? = some (Cond.code (ipY 62) (ipB 62) (ipM 62) (ipR 62)) := rfl
set_option maxRecDepth 100000 in
theorem ipCodeX_63 : lw_tbl[232]? = some (Cond.code (ipY 63) (ipB 63) (ipM 63) (ipR 63)) := rfl
set_option maxRecDepth 100000 in
theorem ipCodeX_64 : lw_tbl[236]? = some (Cond.code (ipY 64) (ipB 64) (ipM 64) (ipR 64)) := rfl
set_option maxRecDepth 100000 in
theorem ipCodeX_65 : lw_tbl[432]? = some (Cond.code (ipY 65) (ipB 65) (ipM 65) (ipR 65)) := rfl
set_option maxRecDepth 100000 in
theorem ipCodeX_66 : lw_tbl[558]? = some (Cond.code (ipY 66) (ipB 66) (ipM 66) (ipR 66)) := rfl
set_option maxRecDepth 100000 in
theorem ipCodeX_67 : lw_tbl[688]? = some (Cond.code (ipY 67) (ipB 67) (ipM 67) (ipR 67)) := rfl
set_option maxRecDepth 100000 in
theorem ipCodeX_68 : lw_tbl[566]? = some (Cond.code (ipY 68) (ipB 68) (ipM 68) (ipR 68)) := rfl
set_option maxRecDepth 100000 in
theorem ipCodeX_69 : lw_tbl[640]? = some (Cond.code (ipY 69) (ipB 69) (ipM 69) (ipR 69)) := rfl
set_option maxRecDepth 100000 in
theorem ipCodeX_70 : lw_tbl[654]? = some (Cond.code (ipY 70) (ipB 70) (ipM 70) (ipR 70)) := rfl
set_option maxRecDepth 100000 in
theorem ipCodeX_71 : lw_tbl[659]? = some (Cond.code (ipY 71) (ipB 71) (ipM 71) (ipR 71)) := rfl
set_option maxRecDepth 100000 in
theorem ipCodeX_72 : lw_tbl[663]? = some (Cond.code (ipY 72) (ipB 72) (ipM 72) (ipR 72)) := rfl
set_option maxRecDepth 100000 in
theorem ipCodeX_73 : lw_tbl[60]? = some (Cond.code (ipY 73) (ipB 73) (ipM 73) (ipR 73)) := rfl
set_option maxRecDepth 100000 in
theorem ipCodeX_74 : lw_tbl[253]? = some (Cond.code (ipY 74) (ipB 74) (ipM 74) (ipR 74)) := rfl
set_option maxRecDepth 100000 in
theorem ipCodeX_75 : lw_tbl[257]? = some (Cond.code (ipY 75) (ipB 75) (ipM 75) (ipR 75)) := rfl
set_option maxRecDepth 100000 in
theorem ipCodeX_76 : lw_tbl[265]? = some (Cond.code (ipY 76) (ipB 76) (ipM 76) (ipR 76)) := rfl
set_option maxRecDepth 100000 in
theorem ipCodeX_77 : lw_tbl[277]? = some (Cond.code (ipY 77) (ipB 77) (ipM 77) (ipR 77)) := rfl
set_option maxRecDepth 100000 in
theorem ipCodeX_78 : lw_tbl[295]? = some (Cond.code (ipY 78) (ipB 78) (ipM 78) (ipR 78)) := rfl
set_option maxRecDepth 100000 in
theorem ipCodeX_79 : lw_tbl[309]? = some (Cond.code (ipY 79) (ipB 79) (ipM 79) (ipR 79)) := rfl
set_option maxRecDepth 100000 in
theorem ipCodeX_80 : lw_tbl[313]? = some (Cond.code (ipY 80) (ipB 80) (ipM 80) (ipR 80)) := rfl
set_option maxRecDepth 100000 in
theorem ipCodeX_81 : lw_tbl[374]? = some (Cond.code (ipY 81) (ipB 81) (ipM 81) (ipR 81)) := rfl
set_option maxRecDepth 100000 in
theorem ipCodeX_82 : lw_tbl[392]? = some (Cond.code (ipY 82) (ipB 82) (ipM 82) (ipR 82)) := rfl
set_option maxRecDepth 100000 in
theorem ipCodeX_83 : lw_tbl[403]? = some (Cond.code (ipY 83) (ipB 83) (ipM 83) (ipR 83)) := rfl
set_option maxRecDepth 100000 in
theorem ipCodeX_84 : lw_tbl[411]? = some (Cond.code (ipY 84) (ipB 84) (ipM 84) (ipR 84)) := rfl
set_option maxRecDepth 100000 in
theorem ipCodeX_85 : lw_tbl[419]? = some (Cond.code (ipY 85) (ipB 85) (ipM 85) (ipR 85)) := rfl
set_option maxRecDepth 100000 in
theorem ipCodeX_86 : lw_tbl[423]? = some (Cond.code (ipY 86) (ipB 86) (ipM 86) (ipR 86)) := rfl
set_option maxRecDepth 100000 in
theorem ipCodeX_87 : lw_tbl[684]? = some (Cond.code (ipY 87) (ipB 87) (ipM 87) (ipR 87)) := rfl
set_option maxRecDepth 100000 in
theorem ipCodeX_88 : lw_tbl[427]? = some (Cond.code (ipY 88) (ipB 88) (ipM 88) (ipR 88)) := rfl
set_option maxRecDepth 100000 in
theorem ipCodeX_89 : lw_tbl[692]? = some (Cond.code (ipY 89) (ipB 89) (ipM 89) (ipR 89)) := rfl
set_option maxRecDepth 100000 in
theorem ipCodeX_90 : lw_tbl[702]? = some (Cond.code (ipY 90) (ipB 90) (ipM 90) (ipR 90)) := rfl
set_option maxRecDepth 100000 in
theorem ipCodeX_91 : lw_tbl[713]? = some (Cond.code (ipY 91) (ipB 91) (ipM 91) (ipR 91)) := rfl
set_option maxRecDepth 100000 in
theorem ipCodeX_92 : lw_tbl[721]? = some (Cond.code (ipY 92) (ipB 92) (ipM 92) (ipR 92)) := rfl
set_option maxRecDepth 100000 in
theorem ipCodeX_93 : lw_tbl[724]? = some (Cond.code (ipY 93) (ipB 93) (ipM 93) (ipR 93)) := rfl
set_option maxRecDepth 100000 in
theorem ipCodeX_94 : lw_tbl[786]? = some (Cond.code (ipY 94) (ipB 94) (ipM 94) (ipR 94)) := rfl
set_option maxRecDepth 100000 in
theorem ipCodeX_95 : lw_tbl[809]? = some (Cond.code (ipY 95) (ipB 95) (ipM 95) (ipR 95)) := rfl
set_option maxRecDepth 100000 in
theorem ipCodeX_96 : lw_tbl[778]? = some (Cond.code (ipY 96) (ipB 96) (ipM 96) (ipR 96)) := rfl
set_option maxRecDepth 100000 in
theorem ipCodeX_97 : lw_tbl[825]? = some (Cond.code (ipY 97) (ipB 97) (ipM 97) (ipR 97)) := rfl
set_option maxRecDepth 100000 in
theorem ipCodeX_98 : lw_tbl[841]? = some (Cond.code (ipY 98) (ipB 98) (ipM 98) (ipR 98)) := rfl
set_option maxRecDepth 100000 in
theorem ipCodeX_99 : lw_tbl[877]? = some (Cond.code (ipY 99) (ipB 99) (ipM 99) (ipR 99)) := rfl
set_option maxRecDepth 100000 in
theorem ipCodeX_100 : lw_tbl[869]? = some (Cond.code (ipY 100) (ipB 100) (ipM 100) (ipR 100)) := rfl
set_option maxRecDepth 100000 in
theorem ipCodeX_101 : lw_tbl[881]? = some (Cond.code (ipY 101) (ipB 101) (ipM 101) (ipR 101)) := rfl
set_option maxRecDepth 100000 in
theorem ipCodeX_102 : lw_tbl[873]? = some (Cond.code (ipY 102) (ipB 102) (ipM 102) (ipR 102)) := rfl
set_option maxRecDepth 100000 in
theorem ipCodeX_103 : lw_tbl[893]? = some (Cond.code (ipY 103) (ipB 103) (ipM 103) (ipR 103)) := rfl
set_option maxRecDepth 100000 in
theorem ipCodeX_104 : lw_tbl[889]? = some (Cond.code (ipY 104) (ipB 104) (ipM 104) (ipR 104)) := rfl
set_option maxRecDepth 100000 in
theorem ipCodeX_105 : lw_tbl[837]? = some (Cond.code (ipY 105) (ipB 105) (ipM 105) (ipR 105)) := rfl
set_option maxRecDepth 100000 in
theorem ipCodeX_106 : lw_tbl[853]? = some (Cond.code (ipY 106) (ipB 106) (ipM 106) (ipR 106)) := rfl
set_option maxRecDepth 100000 in
theorem ipCodeX_107 : lw_tbl[865]? = some (Cond.code (ipY 107) (ipB 107) (ipM 107) (ipR 107)) := rfl
set_option maxRecDepth 100000 in
theorem ipCodeX_108 : lw_tbl[861]? = some (Cond.code (ipY 108) (ipB 108) (ipM 108) (ipR 108)) := rfl
set_option maxRecDepth 100000 in
theorem ipCodeX_109 : lw_tbl[885]? = some (Cond.code (ipY 109) (ipB 109) (ipM 109) (ipR 109)) := rfl
set_option maxRecDepth 100000 in
theorem ipCodeX_110 : lw_tbl[897]? = some (Cond.code (ipY 110) (ipB 110) (ipM 110) (ipR 110)) := rfl
set_option maxRecDepth 100000 in
theorem ipCodeX_111 : lw_tbl[901]? = some (Cond.code (ipY 111) (ipB 111) (ipM 111) (ipR 111)) := rfl
set_option maxRecDepth 100000 in
theorem ipCodeX_112 : lw_tbl[909]? = some (Cond.code (ipY 112) (ipB 112) (ipM 112) (ipR 112)) := rfl
set_option maxRecDepth 100000 in
theorem ipCodeX_113 : lw_tbl[821]? = some (Cond.code (ipY 113) (ipB 113) (ipM 113) (ipR 113)) := rfl
set_option maxRecDepth 100000 in
theorem ipCodeX_114 : lw_tbl[913]? = some (Cond.code (ipY 114) (ipB 114) (ipM 114) (ipR 114)) := rfl
set_option maxRecDepth 100000 in
theorem ipCodeX_115 : lw_tbl[921]? = some (Cond.code (ipY 115) (ipB 115) (ipM 115) (ipR 115)) := rfl
set_option maxRecDepth 100000 in
theorem ipCodeX_116 : lw_tbl[917]? = some (Cond.code (ipY 116) (ipB 116) (ipM 116) (ipR 116)) := rfl
set_option maxRecDepth 100000 in
theorem ipCodeX_117 : lw_tbl[782]? = some (Cond.code (ipY 117) (ipB 117) (ipM 117) (ipR 117)) := rfl
set_option maxRecDepth 100000 in
theorem ipCodeX_118 : lw_tbl[790]? = some (Cond.code (ipY 118) (ipB 118) (ipM 118) (ipR 118)) := rfl
set_option maxRecDepth 100000 in
theorem ipCodeX_119 : lw_tbl[794]? = some (Cond.code (ipY 119) (ipB 119) (ipM 119) (ipR 119)) := rfl
set_option maxRecDepth 100000 in
theorem ipCodeX_120 : lw_tbl[798]? = some (Cond.code (ipY 120) (ipB 120) (ipM 120) (ipR 120)) := rfl
set_option maxRecDepth 100000 in
theorem ipCodeX_121 : lw_tbl[806]? = some (Cond.code (ipY 121) (ipB 121) (ipM 121) (ipR 121)) := rfl
set_option maxRecDepth 100000 in
theorem ipCodeX_122 : lw_tbl[817]? = some (Cond.code (ipY 122) (ipB 122) (ipM 122) (ipR 122)) := rfl
set_option maxRecDepth 100000 in
theorem ipCodeX_123 : lw_tbl[833]? = some (Cond.code (ipY 123) (ipB 123) (ipM 123) (ipR 123)) := rfl
set_option maxRecDepth 100000 in
theorem ipCodeX_124 : lw_tbl[802]? = some (Cond.code (ipY 124) (ipB 124) (ipM 124) (ipR 124)) := rfl
set_option maxRecDepth 100000 in
theorem ipCodeX_125 : lw_tbl[813]? = some (Cond.code (ipY 125) (ipB 125) (ipM 125) (ipR 125)) := rfl
set_option maxRecDepth 100000 in
theorem ipCodeX_126 : lw_tbl[829]? = some (Cond.code (ipY 126) (ipB 126) (ipM 126) (ipR 126)) := rfl
set_option maxRecDepth 100000 in
theorem ipCodeX_127 : lw_tbl[845]? = some (Cond.code (ipY 127) (ipB 127) (ipM 127) (ipR 127)) := rfl
set_option maxRecDepth 100000 in
theorem ipCodeX_128 : lw_tbl[857]? = some (Cond.code (ipY 128) (ipB 128) (ipM 128) (ipR 128)) := rfl
set_option maxRecDepth 100000 in
theorem ipCodeX_129 : lw_tbl[849]? = some (Cond.code (ipY 129) (ipB 129) (ipM 129) (ipR 129)) := rfl
set_option maxRecDepth 100000 in
theorem ipCodeX_130 : lw_tbl[905]? = some (Cond.code (ipY 130) (ipB 130) (ipM 130) (ipR 130)) := rfl
set_option maxRecDepth 100000 in
theorem ipCodeX_131 : lw_tbl[929]? = some (Cond.code (ipY 131) (ipB 131) (ipM 131) (ipR 131)) := rfl
set_option maxRecDepth 100000 in
theorem ipCodeX_132 : lw_tbl[925]? = some (Cond.code (ipY 132) (ipB 132) (ipM 132) (ipR 132)) := rfl
set_option maxRecDepth 100000 in
theorem ipCodeX_133 : lw_tbl[933]? = some (Cond.code (ipY 133) (ipB 133) (ipM 133) (ipR 133)) := rfl
set_option maxRecDepth 100000 in
theorem ipCodeX_134 : lw_tbl[937]? = some (Cond.code (ipY 134) (ipB 134) (ipM 134) (ipR 134)) := rfl
set_option maxRecDepth 100000 in
theorem ipCodeX_135 : lw_tbl[941]? = some (Cond.code (ipY 135) (ipB 135) (ipM 135) (ipR 135)) := rfl
set_option maxRecDepth 100000 in
theorem ipCodeX_136 : lw_tbl[957]? = some (Cond.code (ipY 136) (ipB 136) (ipM 136) (ipR 136)) := rfl
set_option maxRecDepth 100000 in
theorem ipCodeX_137 : lw_tbl[961]? = some (Cond.code (ipY 137) (ipB 137) (ipM 137) (ipR 137)) := rfl
set_option maxRecDepth 100000 in
theorem ipCodeX_138 : lw_tbl[965]? = some (Cond.code (ipY 138) (ipB 138) (ipM 138) (ipR 138)) := rfl
set_option maxRecDepth 100000 in
theorem ipCodeX_139 : lw_tbl[969]? = some (Cond.code (ipY 139) (ipB 139) (ipM 139) (ipR 139)) := rfl
set_option maxRecDepth 100000 in
theorem ipCodeX_140 : lw_tbl[977]? = some (Cond.code (ipY 140) (ipB 140) (ipM 140) (ipR 140)) := rfl
set_option maxRecDepth 100000 in
theorem ipCodeX_141 : lw_tbl[981]? = some (Cond.code (ipY 141) (ipB 141) (ipM 141) (ipR 141)) := rfl
set_option maxRecDepth 100000 in
theorem ipCodeX_142 : lw_tbl[985]? = some (Cond.code (ipY 142) (ipB 142) (ipM 142) (ipR 142)) := rfl
set_option maxRecDepth 100000 in
theorem ipCodeX_143 : lw_tbl[952]? = some (Cond.code (ipY 143) (ipB 143) (ipM 143) (ipR 143)) := rfl
set_option maxRecDepth 100000 in
theorem ipCodeX_144 : lw_tbl[949]? = some (Cond.code (ipY 144) (ipB 144) (ipM 144) (ipR 144)) := rfl
set_option maxRecDepth 100000 in
theorem ipCodeX_145 : lw_tbl[973]? = some (Cond.code (ipY 145) (ipB 145) (ipM 145) (ipR 145)) := rfl
set_option maxRecDepth 100000 in
theorem ipCodeX_146 : lw_tbl[989]? = some (Cond.code (ipY 146) (ipB 146) (ipM 146) (ipR 146)) := rfl
set_option maxRecDepth 100000 in
theorem ipCodeX_147 : lw_tbl[945]? = some (Cond.code (ipY 147) (ipB 147) (ipM 147) (ipR 147)) := rfl
set_option maxRecDepth 100000 in
theorem ipCodeX_148 : lw_tbl[993]? = some (Cond.code (ipY 148) (ipB 148) (ipM 148) (ipR 148)) := rfl
set_option maxRecDepth 100000 in
theorem ipCodeX_149 : lw_tbl[997]? = some (Cond.code (ipY 149) (ipB 149) (ipM 149) (ipR 149)) := rfl
set_option maxRecDepth 100000 in
theorem ipCodeX_150 : lw_tbl[1001]? = some (Cond.code (ipY 150) (ipB 150) (ipM 150) (ipR 150)) := rfl
set_option maxRecDepth 100000 in
theorem ipCodeX_151 : lw_tbl[675]? = some (Cond.code (ipY 151) (ipB 151) (ipM 151) (ipR 151)) := rfl
theorem ipCodeW_0 : ∀ q ∈ ([0, 1, 2, 3, 4, 5, 6, 7, 8, 9, 10, 11, 12, 13, 14, 15, 16, 17, 18, 19, 20, 21, 22, 23, 24, 25, 26, 27, 28, 29, 30, 31, 32, 33, 34, 35, 36, 37, 38, 39] : List Nat), Cond.code (ipY q) (ipB q) (ipM q) (ipR q) ∈ lw_tbl := List.forall_mem_cons.mpr ⟨List.mem_of_getElem? ipCodeX_0, List.forall_mem_cons.mpr ⟨List.mem_of_getElem? ipCodeX_1, List.forall_mem_cons.mpr ⟨List.mem_of_getElem? ipCodeX_2, List.forall_mem_cons.mpr ⟨List.mem_of_getElem? ipCodeX_3, List.forall_mem_cons.mpr ⟨List.mem_of_getElem? ipCodeX_4, List.forall_mem_cons.mpr ⟨List.mem_of_getElem? ipCodeX_5, List.forall_mem_cons.mpr ⟨List.mem_of_getElem? ipCodeX_6, List.forall_mem_cons.mpr ⟨List.mem_of_getElem? ipCodeX_7, List.forall_mem_cons.mpr ⟨List.mem_of_getElem? ipCodeX_8, List.forall_mem_cons.mpr ⟨List.mem_of_getElem? ipCodeX_9, List.forall_mem_cons.mpr ⟨List.mem_of_getElem? ipCodeX_10, List.forall_mem_cons.mpr ⟨List.mem_of_getElem? ipCodeX_11, List.forall_mem_cons.mpr ⟨List.mem_of_getElem? ipCodeX_12, List.forall_mem_cons.mpr ⟨List.mem_of_getElem? ipCodeX_13, List.forall_mem_cons.mpr ⟨List.mem_of_getElem? ipCodeX_14, List.forall_mem_cons.mpr ⟨List.mem_of_getElem? ipCodeX_15, List.forall_mem_cons.mpr ⟨List.mem_of_getElem? ipCodeX_16, List.forall_mem_cons.mpr ⟨List.mem_of_getElem? ipCodeX_17, List.forall_mem_cons.mpr ⟨List.mem_of_getElem? ipCodeX_18, List.forall_mem_cons.mpr ⟨List.mem_of_getElem? ipCodeX_19, List.forall_mem_cons.mpr ⟨List.mem_of_getElem? ipCodeX_20, List.forall_mem_cons.mpr ⟨List.mem_of_getElem? ipCodeX_21, List.forall_mem_cons.mpr ⟨List.mem_of_getElem? ipCodeX_22, List.forall_mem_cons.mpr ⟨List.mem_of_getElem? ipCodeX_23, List.forall_mem_cons.mpr ⟨List.mem_of_getElem? ipCodeX_24, List.forall_mem_cons.mpr ⟨List.mem_of_getElem? ipCodeX_25, List.forall_mem_cons.mpr ⟨List.mem_of_getElem? ipCodeX_26, List.forall_mem_cons.mpr ⟨List.mem_of_getElem? ipCodeX_27, List.forall_mem_cons.mpr ⟨List.mem_of_getElem? ipCodeX_28, List.forall_mem_cons.mpr ⟨List.mem_of_getElem? ipCodeX_29, List.forall_mem_cons.mpr ⟨List.mem_of_getElem? ipCodeX_30, List.forall_mem_cons.mpr ⟨List.mem_of_getElem? ipCodeX_31, List.forall_mem_cons.mpr ⟨List.mem_of_getElem? ipCodeX_32, List.forall_mem_cons.mpr ⟨List.mem_of_getElem? ipCodeX_33, List.forall_mem_cons.mpr ⟨List.mem_of_getElem? ipCodeX_34, List.forall_mem_cons.mpr ⟨List.mem_of_getElem? ipCodeX_35, List.forall_mem_cons.mpr ⟨List.mem_of_getElem? ipCodeX_36, List.forall_mem_cons.mpr ⟨List.mem_of_getElem? ipCodeX_37, List.forall_mem_cons.mpr ⟨List.mem_of_getElem? ipCodeX_38, List.forall_mem_cons.mpr ⟨List.mem_of_getElem? ipCodeX_39, fun _ h => absurd h List.not_mem_nil⟩⟩⟩⟩⟩⟩⟩⟩⟩⟩⟩⟩⟩⟩⟩⟩⟩⟩⟩⟩⟩⟩⟩⟩⟩⟩⟩⟩⟩⟩⟩⟩⟩⟩⟩⟩⟩⟩⟩⟩
theorem ipCodeW_1 : ∀ q ∈ ([40, 41, 42, 43, 44, 45, 46, 47, 48, 49, 50, 51, 52, 53, 54, 55, 56, 57, 58, 59, 60, 61, 62, 63, 64, 65, 66, 67, 68, 69, 70, 71, 72, 73, 74, 75, 76, 77, 78, 79] : List Nat), Cond.code (ipY q) (ipB q) (ipM q) (ipR q) ∈ lw_tbl := List.forall_mem_cons.mpr ⟨List.mem_of_getElem? ipCodeX_40, List.forall_mem_cons.mpr ⟨List.mem_of_getElem? ipCodeX_41, List.forall_mem_cons.mpr ⟨List.mem_of_getElem? ipCodeX_42, List.forall_mem_cons.mpr ⟨List.mem_of_getElem? ipCodeX_43, List.forall_mem_cons.mpr ⟨List.mem_of_getElem? ipCodeX_44, List.forall_mem_cons.mpr ⟨List.mem_of_getElem? ipCodeX_45, List.forall_mem_cons.mpr ⟨List.mem_of_getElem? ipCodeX_46, List.forall_mem_cons.mpr ⟨List.mem_of_getElem? ipCodeX_47, List.forall_mem_cons.mpr ⟨List.mem_of_getElem? ipCodeX_48, List.forall_mem_cons.mpr ⟨List.mem_of_getElem? ipCodeX_49, List.forall_mem_cons.mpr ⟨List.mem_of_getElem? ipCodeX_50, List.forall_mem_cons.mpr ⟨List.mem_of_getElem? ipCodeX_51, List.forall_mem_cons.mpr ⟨List.mem_of_getElem? ipCodeX_52, List.forall_mem_cons.mpr ⟨List.mem_of_getElem? ipCodeX_53, List.forall_mem_cons.mpr ⟨List.mem_of_getElem? ipCodeX_54, List.forall_mem_cons.mpr ⟨List.mem_of_getElem? ipCodeX_55, List.forall_mem_cons.mpr ⟨List.mem_of_getElem? ipCodeX_56, List.forall_mem_cons.mpr ⟨List.mem_of_getElem? ipCodeX_57, List.forall_mem_cons.mpr ⟨List.mem_of_getElem? ipCodeX_58, List.forall_mem_cons.mpr ⟨List.mem_of_getElem? ipCodeX_59, List.forall_mem_cons.mpr ⟨List.mem_of_getElem? ipCodeX_60, List.forall_mem_cons.mpr ⟨List.mem_of_getElem? ipCodeX_61, List.forall_mem_cons.mpr ⟨List.mem_of_getElem? ipCodeX_62, List.forall_mem_cons.mpr ⟨List.mem_of_getElem? ipCodeX_63, List.forall_mem_cons.mpr ⟨List.mem_of_getElem? ipCodeX_64, List.forall_mem_cons.mpr ⟨List.mem_of_getElem? ipCodeX_65, List.forall_mem_cons.mpr ⟨List.mem_of_getElem? ipCodeX_66, List.forall_mem_cons.mpr ⟨List.mem_of_getElem? ipCodeX_67, List.forall_mem_cons.mpr ⟨List.mem_of_getElem? ipCodeX_68, List.forall_mem_cons.mpr ⟨List.mem_of_getElem? ipCodeX_69, List.forall_mem_cons.mpr ⟨List.mem_of_getElem? ipCodeX_70, List.forall_mem_cons.mpr ⟨List.mem_of_getElem? ipCodeX_71, List.forall_mem_cons.mpr ⟨List.mem_of_getElem? ipCodeX_72, List.forall_mem_cons.mpr ⟨List.mem_of_getElem? ipCodeX_73, List.forall_mem_cons.mpr ⟨List.mem_of_getElem? ipCodeX_74, List.forall_mem_cons.mpr ⟨List.mem_of_getElem? ipCodeX_75, List.forall_mem_cons.mpr ⟨List.mem_of_getElem? ipCodeX_76, List.forall_mem_cons.mpr ⟨List.mem_of_getElem? ipCodeX_77, List.forall_mem_cons.mpr ⟨List.mem_of_getElem? ipCodeX_78, List.forall_mem_cons.mpr ⟨List.mem_of_getElem? ipCodeX_79, fun _ h => absurd h List.not_mem_nil⟩⟩⟩⟩⟩⟩⟩⟩⟩⟩⟩⟩⟩⟩⟩⟩⟩⟩⟩⟩⟩⟩⟩⟩⟩⟩⟩⟩⟩⟩⟩⟩⟩⟩⟩⟩⟩⟩⟩⟩
theorem ipCodeW_2 : ∀ q ∈ ([80, 81, 82, 83, 84, 85, 86, 87, 88, 89, 90, 91, 92, 93, 94, 95, 96, 97, 98, 99, 100, 101, 102, 103, 104, 105, 106, 107, 108, 109, 110, 111, 112, 113, 114, 115, 116, 117, 118, 119] : List Nat), Cond.code (ipY q) (ipB q) (ipM q) (ipR q) ∈ lw_tbl := List.forall_mem_cons.mpr ⟨List.mem_of_getElem? ipCodeX_80, List.forall_mem_cons.mpr ⟨List.mem_of_getElem? ipCodeX_81, List.forall_mem_cons.mpr ⟨List.mem_of_getElem? ipCodeX_82, List.forall_mem_cons.mpr ⟨List.mem_of_getElem? ipCodeX_83, List.forall_mem_cons.mpr ⟨List.mem_of_getElem? ipCodeX_84, List.forall_mem_cons.mpr ⟨List.mem_of_getElem? ipCodeX_85, List.forall_mem_cons.mpr ⟨List.mem_of_getElem? ipCodeX_86, List.forall_mem_cons.mpr ⟨List.mem_of_getElem? ipCodeX_87, List.forall_mem_cons.mpr ⟨List.mem_of_getElem? ipCodeX_88, List.forall_mem_cons.mpr ⟨List.mem_of_getElem? ipCodeX_89, List.forall_mem_cons.mpr ⟨List.mem_of_getElem? ipCodeX_90, List.forall_mem_cons.mpr ⟨List.mem_of_getElem? ipCodeX_91, List.forall_mem_cons.mpr ⟨List.mem_of_getElem? ipCodeX_92, List.forall_mem_cons.mpr ⟨List.mem_of_getElem? ipCodeX_93, List.forall_mem_cons.mpr ⟨List.mem_of_getElem? ipCodeX_94, List.forall_mem_cons.mpr ⟨List.mem_of_getElem? ipCodeX_95, List.forall_mem_cons.mpr ⟨List.mem_of_getElem? ipCodeX_96, List.forall_mem_cons.mpr ⟨List.mem_of_getElem? ipCodeX_97, List.forall_mem_cons.mpr ⟨List.mem_of_getElem? ipCodeX_98, List.forall_mem_cons.mpr ⟨List.mem_of_getElem? ipCodeX_99, List.forall_mem_cons.mpr ⟨List.mem_of_getElem? ipCodeX_100, List.forall_mem_cons.mpr ⟨List.mem_of_getElem? ipCodeX_101, List.forall_mem_cons.mpr ⟨List.mem_of_getElem? ipCodeX_102, List.forall_mem_cons.mpr ⟨List.mem_of_getElem? ipCodeX_103, List.forall_mem_cons.mpr ⟨List.mem_of_getElem? ipCodeX_104, List.forall_mem_cons.mpr ⟨List.mem_of_getElem? ipCodeX_105, List.forall_mem_cons.mpr ⟨List.mem_of_getElem? ipCodeX_106, List.forall_mem_cons.mpr ⟨List.mem_of_getElem? ipCodeX_107, List.forall_mem_cons.mpr ⟨List.mem_of_getElem? ipCodeX_108, List.forall_mem_cons.mpr ⟨List.mem_of_getElem? ipCodeX_109, List.forall_mem_cons.mpr ⟨List.mem_of_getElem? ipCodeX_110, List.forall_mem_cons.mpr ⟨List.mem_of_getElem? ipCodeX_111, List.forall_mem_cons.mpr ⟨List.mem_of_getElem? ipCodeX_112, List.forall_mem_cons.mpr ⟨List.mem_of_getElem? ipCodeX_113, List.forall_mem_cons.mpr ⟨List.mem_of_getElem? ipCodeX_114, List.forall_mem_cons.mpr ⟨List.mem_of_getElem? ipCodeX_115, List.forall_mem_cons.mpr ⟨List.mem_of_getElem? ipCodeX_116, List.forall_mem_cons.mpr ⟨List.mem_of_getElem? ipCodeX_117, List.forall_mem_cons.mpr ⟨List.mem_of_getElem? ipCodeX_118, List.forall_mem_cons.mpr ⟨List.mem_of_getElem? ipCodeX_119, fun _ h => absurd h List.not_mem_nil⟩⟩⟩⟩⟩⟩⟩⟩⟩⟩⟩⟩⟩⟩⟩⟩⟩⟩⟩⟩⟩⟩⟩⟩⟩⟩⟩⟩⟩⟩⟩⟩⟩⟩⟩⟩⟩⟩⟩⟩
theorem ipCodeW_3 : ∀ q ∈ ([120, 121, 122, 123, 124, 125, 126, 127, 128, 129, 130, 131, 132, 133, 134, 135, 136, 137, 138, 139, 140, 141, 142, 143, 144, 145, 146, 147, 148, 149, 150, 151] : List Nat), Cond.code (ipY q) (ipB q) (ipM q) (ipR q) ∈ lw_tbl := List.forall_mem_cons.mpr ⟨List.mem_of_getElem? ipCodeX_120, List.forall_mem_cons.mpr ⟨List.mem_of_getElem? ipCodeX_121, List.forall_mem_cons.mpr ⟨List.mem_of_getElem? ipCodeX_122, List.forall_mem_cons.mpr ⟨List.mem_of_getElem? ipCodeX_123, List.forall_mem_cons.mpr ⟨List.mem_of_getElem? ipCodeX_124, List.forall_mem_cons.mpr ⟨List.mem_of_getElem? ipCodeX_125, List.forall_mem_cons.mpr ⟨List.mem_of_getElem? ipCodeX_126, List.forall_mem_cons.mpr ⟨List.mem_of_getElem? ipCodeX_127, List.forall_mem_cons.mpr ⟨List.mem_of_getElem? ipCodeX_128, List.forall_mem_cons.mpr ⟨List.mem_of_getElem? ipCodeX_129, List.forall_mem_cons.mpr ⟨List.mem_of_getElem? ipCodeX_130, List.forall_mem_cons.mpr ⟨List.mem_of_getElem? ipCodeX_131, List.forall_mem_cons.mpr ⟨List.mem_of_getElem? ipCodeX_132, List.forall_mem_cons.mpr ⟨List.mem_of_getElem? ipCodeX_133, List.forall_mem_cons.mpr ⟨List.mem_of_getElem? ipCodeX_134, List.forall_mem_cons.mpr ⟨List.mem_of_getElem? ipCodeX_135, List.forall_mem_cons.mpr ⟨List.mem_of_getElem? ipCodeX_136, List.forall_mem_cons.mpr ⟨List.mem_of_getElem? ipCodeX_137, List.forall_mem_cons.mpr ⟨List.mem_of_getElem? ipCodeX_138, List.forall_mem_cons.mpr ⟨List.mem_of_getElem? ipCodeX_139, List.forall_mem_cons.mpr ⟨List.mem_of_getElem? ipCodeX_140, List.forall_mem_cons.mpr ⟨List.mem_of_getElem? ipCodeX_141, List.forall_mem_cons.mpr ⟨List.mem_of_getElem? ipCodeX_142, List.forall_mem_cons.mpr ⟨List.mem_of_getElem? ipCodeX_143, List.forall_mem_cons.mpr ⟨List.mem_of_getElem? ipCodeX_144, List.forall_mem_cons.mpr ⟨List.mem_of_getElem? ipCodeX_145, List.forall_mem_cons.mpr ⟨List.mem_of_getElem? ipCodeX_146, List.forall_mem_cons.mpr ⟨List.mem_of_getElem? ipCodeX_147, List.forall_mem_cons.mpr ⟨List.mem_of_getElem? ipCodeX_148, List.forall_mem_cons.mpr ⟨List.mem_of_getElem? ipCodeX_149, List.forall_mem_cons.mpr ⟨List.mem_of_getElem? ipCodeX_150, List.forall_mem_cons.mpr ⟨List.mem_of_getElem? ipCodeX_151, fun _ h => absurd h List.not_mem_nil⟩⟩⟩⟩⟩⟩⟩⟩⟩⟩⟩⟩⟩⟩⟩⟩⟩⟩⟩⟩⟩⟩⟩⟩⟩⟩⟩⟩⟩⟩⟩⟩
theorem ipCodeW : ∀ q ∈ List.range 152, Cond.code (ipY q) (ipB q) (ipM q) (ipR q) ∈ lw_tbl := List.forall_mem_append.mpr ⟨ipCodeW_0, List.forall_mem_append.mpr ⟨ipCodeW_1, List.forall_mem_append.mpr ⟨ipCodeW_2, ipCodeW_3⟩⟩⟩
set_option maxRecDepth 100000 in
theorem ipIniW_0 : ∀ q ∈ ([0, 1, 2, 3, 4, 5, 6, 7, 8, 9, 10, 11, 12, 13, 14, 15, 16, 17, 18, 19, 20, 21, 22, 23, 24, 25, 26, 27, 28, 29, 30, 31, 32, 33, 34, 35, 36, 37, 38, 39] : List Nat), Cond.initialized (ipY q).cls ∈ lw_tbl := ipzL (fun q => Cond.initialized (ipY q).cls) _ [45, 45, 45, 45, 45, 45, 54, 54, 54, 54, 47, 47, 47, 47, 53, 53, 53, 53, 53, 53, 53, 53, 53, 53, 53, 53, 53, 46, 46, 52, 52, 52, 52, 52, 52, 48, 48, 48, 48, 48] (by decide +kernel) (by decide +kernel)
set_option maxRecDepth 100000 in
theorem ipIniW_1 : ∀ q ∈ ([40, 41, 42, 43, 44, 45, 46, 47, 48, 49, 50, 51, 52, 53, 54, 55, 56, 57, 58, 59, 60, 61, 62, 63, 64, 65, 66, 67, 68, 69, 70, 71, 72, 73, 74, 75, 76, 77, 78, 79] : List Nat), Cond.initialized (ipY q).cls ∈ lw_tbl := ipzL (fun q => Cond.initialized (ipY q).cls) _ [48, 48, 48, 48, 48, 48, 48, 48, 48, 48, 48, 48, 48, 48, 48, 48, 48, 48, 48, 48, 48, 48, 48, 48, 48, 51, 51, 51, 51, 51, 51, 51, 51, 44, 44, 44, 44, 44, 44, 44] (by decide +kernel) (by decide +kernel)
set_option maxRecDepth 100000 in
theorem ipIniW_2 : ∀ q ∈ ([80, 81, 82, 83, 84, 85, 86, 87, 88, 89, 90, 91, 92, 93, 94, 95, 96, 97, 98, 99, 100, 101, 102, 103, 104, 105, 106, 107, 108, 109, 110, 111, 112, 113, 114, 115, 116, 117, 118, 119] : List Nat), Cond.initialized (ipY q).cls ∈ lw_tbl := ipzL (fun q => Cond.initialized (ipY q).cls) _ [44, 44, 44, 44, 44, 44, 44, 44, 44, 44, 44, 49, 49, 49, 49, 49, 49, 49, 49, 49, 49, 49, 49, 49, 49, 49, 49, 49, 49, 49, 49, 49, 49, 49, 49, 49, 49, 49, 49, 49] (by decide +kernel) (by decide +kernel)
set_option maxRecDepth 100000 in
theorem ipIniW_3 : ∀ q ∈ ([120, 121, 122, 123, 124, 125, 126, 127, 128, 129, 130, 131, 132, 133, 134, 135, 136, 137, 138, 139, 140, 141, 142, 143, 144, 145, 146, 147, 148, 149, 150, 151] : List Nat), Cond.initialized (ipY q).cls ∈ lw_tbl := ipzL (fun q => Cond.initialized (ipY q).cls) _ [49, 49, 49, 49, 49, 49, 49, 49, 49, 49, 49, 49, 49, 49, 49, 49, 49, 49, 49, 49, 49, 49, 49, 49, 49, 49, 49, 49, 49, 49, 49, 55] (by decide +kernel) (by decide +kernel)
theorem ipIniW : ∀ q ∈ List.range 152, Cond.initialized (ipY q).cls ∈ lw_tbl := List.forall_mem_append.mpr ⟨ipIniW_0, List.forall_mem_append.mpr ⟨ipIniW_1, List.forall_mem_append.mpr ⟨ipIniW_2, ipIniW_3⟩⟩⟩
set_option maxRecDepth 100000 in
theorem ipVinW_0 : ∀ q ∈ ([1, 2, 3, 4, 5, 7, 8, 9, 11, 12, 13, 15, 16, 17, 18, 19, 20, 21, 22, 23, 24, 25, 26, 28, 30, 31, 32, 33, 34, 36, 37, 38, 39, 40, 41, 42, 43, 44, 45, 46] : List Nat), Cond.instanceMethod (ipY q) ∈ lw_tbl := ipzL (fun q => Cond.instanceMethod (ipY q)) _ [259, 206, 329, 413, 704, 646, 642, 678, 376, 368, 405, 584, 588, 592, 630, 600, 618, 604, 613, 608, 622, 626, 634, 695, 568, 572, 596, 576, 580, 267, 279, 297, 271, 285, 289, 303, 325, 320, 315, 381] (by decide +kernel) (by decide +kernel)
set_option maxRecDepth 100000 in
theorem ipVinW_1 : ∀ q ∈ ([47, 48, 49, 50, 51, 52, 53, 54, 55, 56, 57, 58, 59, 60, 61, 62, 63, 64, 66, 67, 68, 69, 70, 71, 72, 74, 75, 76, 77, 78, 79, 80, 81, 82, 83, 84, 85, 86, 87, 88] : List Nat), Cond.instanceMethod (ipY q) ∈ lw_tbl := ipzL (fun q => Cond.instanceMethod (ipY q)) _ [385, 394, 214, 218, 210, 337, 560, 333, 344, 348, 352, 360, 356, 364, 222, 226, 230, 234, 556, 686, 565, 639, 652, 657, 661, 251, 255, 263, 275, 293, 307, 311, 372, 390, 401, 409, 417, 421, 682, 426] (by decide +kernel) (by decide +kernel)
set_option maxRecDepth 100000 in
theorem ipVinW_2 : ∀ q ∈ ([89, 90, 92, 94, 96, 97, 98, 99, 100, 101, 102, 103, 104, 105, 106, 107, 108, 109, 110, 111, 112, 113, 114, 115, 116, 117, 118, 119, 120, 121, 122, 123, 124, 125, 126, 127, 128, 129, 130, 131] : List Nat), Cond.instanceMethod (ipY q) ∈ lw_tbl := ipzL (fun q => Cond.instanceMethod (ipY q)) _ [690, 700, 720, 785, 776, 824, 840, 876, 868, 880, 872, 892, 888, 836, 852, 864, 860, 884, 896, 900, 908, 820, 912, 920, 916, 780, 789, 793, 797, 805, 816, 832, 800, 811, 827, 843, 856, 847, 903, 928] (by decide +kernel) (by decide +kernel)
set_option maxRecDepth 100000 in
theorem ipVinW_3 : ∀ q ∈ ([132, 133, 134, 135, 136, 137, 138, 139, 140, 141, 142, 144, 145, 146, 147, 148, 149, 150] : List Nat), Cond.instanceMethod (ipY q) ∈ lw_tbl := ipzL (fun q => Cond.instanceMethod (ipY q)) _ [923, 931, 935, 939, 956, 960, 964, 968, 976, 980, 984, 948, 972, 988, 943, 991, 995, 999] (by decide +kernel) (by decide +kernel)
theorem ipVinW : ∀ q ∈ ipVM, Cond.instanceMethod (ipY q) ∈ lw_tbl := List.forall_mem_append.mpr ⟨ipVinW_0, List.forall_mem_append.mpr ⟨ipVinW_1, List.forall_mem_append.mpr ⟨ipVinW_2, ipVinW_3⟩⟩⟩
set_option maxRecDepth 100000 in
theorem ipIinW_0 : ∀ q ∈ ([0, 6, 10, 14, 27, 29, 35, 65, 73, 91] : List Nat), Cond.instanceMethod (ipY q) ∈ lw_tbl := ipzL (fun q => Cond.instanceMethod (ipY q)) _ [67, 509, 80, 460, 73, 437, 134, 431, 59, 712] (by decide +kernel) (by decide +kernel)
theorem ipIinW : ∀ q ∈ ipIM, Cond.instanceMethod (ipY q) ∈ lw_tbl := ipIinW_0
set_option maxRecDepth 100000 in
theorem ipSelW_0 : ∀ q ∈ ([1, 2, 3, 4, 5, 7, 8, 9, 11, 12, 13, 15, 16, 17, 18, 19, 20, 21, 22, 23, 24, 25, 26, 28, 30, 31, 32, 33, 34, 36, 37, 38, 39, 40, 41, 42, 43, 44, 45, 46] : List Nat), Cond.selects (ipCN (ipO q)) (ipY q) (ipY q) ∈ lw_tbl := ipzL (fun q => Cond.selects (ipCN (ipO q)) (ipY q) (ipY q)) _ [260, 207, 330, 414, 705, 647, 643, 679, 377, 369, 406, 585, 589, 593, 631, 601, 619, 605, 614, 609, 623, 627, 635, 696, 569, 573, 597, 577, 581, 268, 280, 298, 272, 286, 290, 304, 326, 321, 316, 382] (by decide +kernel) (by decide +kernel)
set_option maxRecDepth 100000 in
theorem ipSelW_1 : ∀ q ∈ ([47, 48, 49, 50, 51, 52, 53, 54, 55, 56, 57, 58, 59, 60, 61, 62, 63, 64, 66, 67, 68, 69, 70, 71, 72, 74, 75, 76, 77, 78, 79, 80, 81, 82, 83, 84, 85, 86, 87, 88] : List Nat), Cond.selects (ipCN (ipO q)) (ipY q) (ipY q) ∈ lw_tbl := ipzL (fun q => Cond.selects (ipCN (ipO q)) (ipY q) (ipY q)) _ [386, 395, 215, 219, 211, 338, 561, 334, 345, 349, 353, 361, 357, 365, 223, 227, 231, 235, 557, 687, 1, 2, 653, 658, 662, 252, 256, 264, 276, 294, 308, 312, 373, 391, 402, 410, 418, 422, 683, 0] (by decide +kernel) (by decide +kernel)
set_option maxRecDepth 100000 in
theorem ipSelW_2 : ∀ q ∈ ([89, 90, 92, 94, 96, 97, 98, 99, 100, 101, 102, 103, 104, 105, 106, 107, 108, 109, 110, 111, 112, 113, 114, 115, 116, 117, 118, 119, 120, 121, 122, 123, 124, 125, 126, 127, 128, 129, 130, 131] : List Nat), Cond.selects (ipCN (ipO q)) (ipY q) (ipY q) ∈ lw_tbl := ipzL (fun q => Cond.selects (ipCN (ipO q)) (ipY q) (ipY q)) _ [691, 701, 3, 4, 777, 11, 14, 21, 19, 22, 20, 25, 24, 13, 15, 18, 17, 23, 26, 27, 28, 10, 29, 31, 30, 781, 5, 6, 7, 8, 9, 12, 801, 812, 828, 844, 16, 848, 904, 32] (by decide +kernel) (by decide +kernel)
set_option maxRecDepth 100000 in
theorem ipSelW_3 : ∀ q ∈ ([132, 133, 134, 135, 136, 137, 138, 139, 140, 141, 142, 144, 145, 146, 147, 148, 149, 150] : List Nat), Cond.selects (ipCN (ipO q)) (ipY q) (ipY q) ∈ lw_tbl := ipzL (fun q => Cond.selects (ipCN (ipO q)) (ipY q) (ipY q)) _ [924, 932, 936, 940, 34, 35, 36, 37, 39, 40, 41, 33, 38, 42, 944, 992, 996, 1000] (by decide +kernel) (by decide +kernel)
theorem ipSelW : ∀ q ∈ ipVM, Cond.selects (ipCN (ipO q)) (ipY q) (ipY q) ∈ lw_tbl := List.forall_mem_append.mpr ⟨ipSelW_0, List.forall_mem_append.mpr ⟨ipSelW_1, List.forall_mem_append.mpr ⟨ipSelW_2, ipSelW_3⟩⟩⟩
set_option maxRecDepth 100000 in
theorem ipMeth0 : (List.range 152).all (fun md => decide (ipM md ≤ 16) && (decide ((ipY md).cls = ipCN (ipO md)) && (decide ((ipY md).cls ≠ "java/lang/invoke/MethodHandle") && (decide ((ipY md).cls ≠ "java/lang/invoke/VarHandle") && plainName (ipY md).cls)))) = true := by decide +kernel
theorem ipMeth {md : Nat} (h : md < 152) : Cond.code (ipY md) (ipB md) (ipM md) (ipR md) ∈ lw_tbl ∧ Cond.initialized (ipY md).cls ∈ lw_tbl ∧ ipM md ≤ 16 ∧ (ipY md).cls = ipCN (ipO md) ∧ (ipY md).cls ≠ "java/lang/invoke/MethodHandle" ∧ (ipY md).cls ≠ "java/lang/invoke/VarHandle" ∧ plainName (ipY md).cls = true := by
  have h0 := List.mem_range.mpr h
  have h1 := List.all_eq_true.mp ipMeth0 md h0
  simp only [Bool.and_eq_true, decide_eq_true_eq] at h1
  exact ⟨ipCodeW md h0, ipIniW md h0, h1⟩
set_option maxRecDepth 100000 in
theorem ipVL_m : ipVL.all (fun q => ipVM.contains q.2.2.1) = true := by decide +kernel
set_option maxRecDepth 100000 in
theorem ipIL_m : (ipIL ++ ipNL).all (fun q => ipIM.contains q.2.2.1) = true := by decide +kernel
end
section
/-! calls and returns, over the machine; the whole of it: ip_met -/
def ipWs (md : Nat) : List Cond := Cond.code (ipY md) (ipB md) (ipM md) (ipR md) :: ipTW
def ipRm (d mc ms : Nat) : Room := { frames := d, cells := mc, slots := ms, locals := 64 * d }
def ipPc (D : va_G) (aC : Nat → Nat) (B0 bb : Nat) (cb : Cell) (sc : ipSc) (vs : List Value) (h : HP) (z : Nat) : Array Value → State → Prop := va_Pc vs (fun U => ipW D aC B0 bb cb h z U.heap ∧ ipK D aC cb sc U)
def ipQc (D : va_G) (aC : Nat → Nat) (B0 bb : Nat) (cb : Cell) (P : ipQ) : Array Value → State → Outcome → State → Prop := fun _ _ o t => ∃ (r : Option Value) (h2 : HP) (z2 : Nat), o = .returned r ∧ P r h2 z2 ∧ ipW D aC B0 bb cb h2 z2 t.heap
set_option maxRecDepth 100000 in
theorem ipVL_r : ipVL.all (fun q => decide (q.2.2.1 < 152) && (decide (ipO q.2.2.1 < 10) && decide ((parseMethodDescriptor (ipY q.2.2.1).desc).map (fun d => d.parameters.length) = some q.2.2.2))) = true := by decide +kernel
set_option maxRecDepth 100000 in
theorem ipIL_r : (ipIL ++ ipNL).all (fun q => decide (q.2.2.1 < 152) && (decide ((ipY q.2.2.1).name = "<init>") && (decide (ipR q.2.2.1 = none) && decide ((parseMethodDescriptor (ipY q.2.2.1).desc).map (fun d => d.parameters.length) = some q.2.2.2)))) = true := by decide +kernel
set_option maxRecDepth 100000 in
theorem ipSL_r : ipSL.all (fun q => decide (q.2.2.1 < 152) && (decide (Cond.static (ipY q.2.2.1) ∈ lw_tbl) && decide ((parseMethodDescriptor (ipY q.2.2.1).desc).map (fun d => d.parameters.length) = some q.2.2.2))) = true := by decide +kernel
set_option maxRecDepth 100000 in
theorem ipMisc0 : decide (Cond.instanceMethod Lib.objectInit ∈ lw_tbl) && (decide (Cond.code Lib.objectInit ⟨#[0xb1]⟩ 1 none ∈ lw_tbl) && (decide (Cond.native arraycopyName ∈ lw_tbl) && (decide (Cond.static arraycopyName ∈ lw_tbl) && decide (Cond.initialized "java/lang/System" ∈ lw_tbl)))) = true := by decide +kernel
theorem ipMisc : Cond.instanceMethod Lib.objectInit ∈ lw_tbl ∧ Cond.code Lib.objectInit ⟨#[0xb1]⟩ 1 none ∈ lw_tbl ∧ Cond.native arraycopyName ∈ lw_tbl ∧ Cond.static arraycopyName ∈ lw_tbl ∧ Cond.initialized "java/lang/System" ∈ lw_tbl := by
  have h := ipMisc0
  simp only [Bool.and_eq_true, decide_eq_true_eq] at h
  exact h
theorem ipGood {md : Nat} (h : md < 152) : GoodIn ipTW (ipWs md) := by
  intro w hw
  rcases List.mem_cons.mp hw with rfl | hw
  · exact ⟨ipTW_in (ipMeth h).1 rfl, good_of_word rfl⟩
  · exact ⟨hw, good_of_word (List.mem_filter.mp hw).2⟩
theorem ipPc_blind {D : va_G} {aC : Nat → Nat} {B0 bb : Nat} {cb : Cell} {sc : ipSc} {vs : List Value} {h : HP} {z : Nat} : FrameBlind (ipPc D aC B0 bb cb sc vs h z) := by
  intro a U g mk q
  obtain ⟨q0, q1, q2⟩ := q
  exact ⟨q0, q1, q2.same (U := U.calling g mk a) rfl⟩
section IPS
variable {p : Program} {l : Launch} {e : Env} {R : Room} {s : State} {m : MethodId} {args : Array Value} {below : List Frame} {meth : Method} {c : Code} {Z : State → Prop} {D : va_G} {aC : Nat → Nat} {B0 bb : Nat} {cb : Cell} {sc : ipSc} {call : ipCall} {mid MC MS d : Nat} {Q : ipQ}
theorem ip_run {H : Heap} {locs : List Loc} {k n mc ms pc : Nat} {ls : Array Slot} {st0 rest vs : List Value} {P : ipQ} (hr : va_Run p l e R s m args below meth c H locs k n mc ms (F0 m pc ls st0) rest (ipQc D aC B0 bb cb P vs.toArray) (fun q => B0 ≤ q)) (hL : ∀ q ∈ locs, B0 ≤ q.base)
    (kk : ∀ (o : Option Value) (h2 : HP) (z2 : Nat) (H1 : Heap) (locs1 : List Loc), P o h2 z2 → ipW D aC B0 bb cb h2 z2 H1 → (∀ q ∈ locs1, B0 ≤ q.base) → W p l e R s m args below meth c H1 locs1 (k + mc) (n + ms) Z (F0 m (pc + 3) ls (o.toList ++ rest))) : W p l e R s m args below meth c H locs k n Z (F0 m pc ls st0) := by
  intro T hT X
  obtain ⟨v, st₀, t, T', L, h0, X', hL2, e1, e2, ⟨r, h2, z2, hv, hp, hw⟩, st⟩ := hr T hT X
  cases hv
  rw [← e1] at hw
  obtain ⟨t2, a1, b1⟩ := kk v h2 z2 T'.heap (locs ++ L) hp hw (fun q hq => by
    rcases List.mem_append.mp hq with h | h
    · exact hL q h
    · exact hL2 q h) T' rfl X'
  exact ⟨t2, st t2 a1, b1⟩
theorem sd_virt (C : ipX p s m args meth c D aC B0 bb cb sc mid) (hR : R.cells = MC ∧ R.slots = MS ∧ d + 1 ≤ R.frames ∧ 64 * (d + 1) ≤ R.locals) (hcall : ∀ (md : Nat) (vs : List Value) (h : HP) (z mc ms : Nat) (P : ipQ), md < 152 → call md vs h z mc ms P → Met l (ipY md) (ipWs md) (ipRm d mc ms) (ipPc D aC B0 bb cb sc vs h z) (ipQc D aC B0 bb cb P) mc ms (fun q => B0 ≤ q)) : ru_virt sc call mid MC MS Q (ipJ p l e R s m args below meth c Z D aC B0 bb cb (ipM mid) MC MS) := by
  intro pc lv st h z k n x len md nn r mc ms fs As rest P hat hA hrest hr hc1 hs1 hca hst hk H locs ls h1 h2 hw hl hL
  obtain ⟨hd, hlk, hlen⟩ := ipAt_all hat
  obtain ⟨hx, hb, hml, hown, hts, hK, -, hbb, -⟩ := C
  have e : len = 3 := hlen (Nat.succ_ne_zero _)
  subst e
  have hin : (ipO mid, x, md, nn) ∈ ipVL := List.contains_iff_mem.mp hlk
  have hr1 := List.all_eq_true.mp ipVL_r _ hin
  simp only [Bool.and_eq_true, decide_eq_true_eq] at hr1
  obtain ⟨hmd, ho, hsig⟩ := hr1
  obtain ⟨g1, g2, g3, g4, g5, g6, g7⟩ := ipMeth hmd
  have hmem : md ∈ ipVM := List.contains_iff_mem.mp (List.all_eq_true.mp ipVL_m _ hin)
  have hins := ipVinW md hmem
  have hsel := ipSelW md hmem
  have cb0 := callB_of (R := R) (mc := mc) (ms := ms) (rm := ipRm d mc ms) nn hts (ipGood hmd) rfl rfl rfl (hts _ (ipTW_in g2 rfl)) (hts _ (ipTW_in (ipVL_w _ hin) rfl)) ⟨g5, g6, hsig⟩ ⟨hR.2.2.1, by show 8 + (ipM md + 11) + 64 * d ≤ R.locals; omega⟩
  refine ip_run (vs := .ref r :: As) (va_runV (C := ipCN (ipO md)) (As := As) (rest := rest) (nL := ipM mid) ⟨hx, hb, hml, hown, hts⟩ (hcall md _ h z mc ms P hmd hca) ⟨cb0, hts _ (ipTW_in hins rfl), hts _ (ipTW_in hsel rfl)⟩ ⟨ipPc_blind, va_recv hK.1 (va_P1 (hw.2.2.2 r _ hr).2) (ci := ipO md) (q0 := 0) (ipCls ho) rfl, fun U hU hW => ⟨rfl, by rw [hU]; exact hw, hK.warm hW⟩⟩ rfl hA hl.1 hst (by show 2 * 0 + _ ≤ 8; omega) hd ⟨by rw [hR.1]; exact hc1, by rw [hR.2.1]; exact hs1⟩) hL fun o h2 z2 H1 locs1 hp hw1 hL1 => ?_
  exact hk o h2 z2 hp H1 locs1 ls hc1 hs1 hw1 hl hL1
theorem sd_spec (C : ipX p s m args meth c D aC B0 bb cb sc mid) (hR : R.cells = MC ∧ R.slots = MS ∧ d + 1 ≤ R.frames ∧ 64 * (d + 1) ≤ R.locals) (hcall : ∀ (md : Nat) (vs : List Value) (h : HP) (z mc ms : Nat) (P : ipQ), md < 152 → call md vs h z mc ms P → Met l (ipY md) (ipWs md) (ipRm d mc ms) (ipPc D aC B0 bb cb sc vs h z) (ipQc D aC B0 bb cb P) mc ms (fun q => B0 ≤ q)) : ru_spec sc call mid MC MS Q (ipJ p l e R s m args below meth c Z D aC B0 bb cb (ipM mid) MC MS) := by
  intro pc lv st h z k n x len md nn r mc ms As rest P hat hA hrest hc1 hs1 hlt hca hst hk H locs ls h1 h2 hw hl hL
  obtain ⟨hd, hlk, hlen⟩ := ipAt_all hat
  obtain ⟨hx, hb, hml, hown, hts, hK, -, hbb, -⟩ := C
  have e : len = 3 := hlen (Nat.succ_ne_zero _)
  subst e
  have hlk2 : (if md = 999 then ipOL.contains (ipO mid, x) else ipIL.contains (ipO mid, x, md, nn) || ipNL.contains (ipO mid, x, md, nn)) = true := hlk
  rw [if_neg (by omega), Bool.or_eq_true] at hlk2
  have hin0 : (ipO mid, x, md, nn) ∈ ipIL ∨ (ipO mid, x, md, nn) ∈ ipNL := hlk2.imp List.contains_iff_mem.mp List.contains_iff_mem.mp
  have hin : (ipO mid, x, md, nn) ∈ ipIL ++ ipNL := List.mem_append.mpr hin0
  have hr1 := List.all_eq_true.mp ipIL_r _ hin
  simp only [Bool.and_eq_true, decide_eq_true_eq] at hr1
  obtain ⟨hmd, hnm, hrt, hsig⟩ := hr1
  obtain ⟨g1, g2, g3, g4, g5, g6, g7⟩ := ipMeth hmd
  have hmem : md ∈ ipIM := List.contains_iff_mem.mp (List.all_eq_true.mp ipIL_m _ hin)
  have hins := ipIinW md hmem
  have hws : ipWs md = Cond.code (ipY md) (ipB md) (ipM md) none :: ipTW := by unfold ipWs; rw [hrt]
  have hroom : (ipRm d mc ms).frames + 1 ≤ R.frames ∧ 8 + (ipM md + 11) + (ipRm d mc ms).locals ≤ R.locals := ⟨hR.2.2.1, by show 8 + (ipM md + 11) + 64 * d ≤ R.locals; omega⟩
  rcases hin0 with hq | hq
  · have cb0 := callB_of (R := R) (mc := mc) (ms := ms) (rm := ipRm d mc ms) nn hts (ipGood hmd) hws rfl rfl (hts _ (ipTW_in g2 rfl)) (hts _ (ipTW_in (ipIL_w _ hq) rfl)) ⟨g5, g6, hsig⟩ hroom
    refine ip_run (vs := .ref r :: As) (va_runI (As := As) (rest := rest) (nL := ipM mid) ⟨hx, hb, hml, hown, hts⟩ (hcall md _ h z mc ms P hmd hca) ⟨cb0, hnm, hts _ (ipTW_in hins rfl)⟩ ⟨ipPc_blind, fun U hU hW => ⟨rfl, by rw [hU]; exact hw, hK.warm hW⟩⟩ rfl hA hl.1 hst (by show 2 * 0 + _ ≤ 8; omega) hd ⟨by rw [hR.1]; exact hc1, by rw [hR.2.1]; exact hs1⟩) hL fun o h2 z2 H1 locs1 hp hw1 hL1 => ?_
    exact hk o h2 z2 hp H1 locs1 ls hc1 hs1 hw1 hl hL1
  · have cb0 := va_cnB (R := R) (mc := mc) (ms := ms) (rm := ipRm d mc ms) nn hts (ipGood hmd) hws rfl rfl (hK.2.2.1 _ hq) (hts _ (ipTW_in g2 rfl)) ⟨g5, g6, hsig⟩ hroom
    refine ip_run (vs := .ref r :: As) (va_runIN (As := As) (rest := rest) (nL := ipM mid) ⟨hx, hb, hml, hown, hts⟩ (hcall md _ h z mc ms P hmd hca) ⟨cb0, hnm, hts _ (ipTW_in hins rfl)⟩ ⟨ipPc_blind, fun U hU hW => ⟨rfl, by rw [hU]; exact hw, hK.warm hW⟩⟩ rfl hA hl.1 hst (by show 2 * 0 + _ ≤ 8; omega) hd ⟨by rw [hR.1]; exact hc1, by rw [hR.2.1]; exact hs1⟩) hL fun o h2 z2 H1 locs1 hp hw1 hL1 => ?_
    exact hk o h2 z2 hp H1 locs1 ls hc1 hs1 hw1 hl hL1
theorem sd_stat (C : ipX p s m args meth c D aC B0 bb cb sc mid) (hR : R.cells = MC ∧ R.slots = MS ∧ d + 1 ≤ R.frames ∧ 64 * (d + 1) ≤ R.locals) (hcall : ∀ (md : Nat) (vs : List Value) (h : HP) (z mc ms : Nat) (P : ipQ), md < 152 → call md vs h z mc ms P → Met l (ipY md) (ipWs md) (ipRm d mc ms) (ipPc D aC B0 bb cb sc vs h z) (ipQc D aC B0 bb cb P) mc ms (fun q => B0 ≤ q)) : ru_stat sc call mid MC MS Q (ipJ p l e R s m args below meth c Z D aC B0 bb cb (ipM mid) MC MS) := by
  intro pc lv st h z k n x len md nn mc ms As rest P hat hA hrest hc1 hs1 hlt hca hst hk H locs ls h1 h2 hw hl hL
  obtain ⟨hd, hlk, hlen⟩ := ipAt_all hat
  obtain ⟨hx, hb, hml, hown, hts, hK, -, hbb, -⟩ := C
  have e : len = 3 := hlen (Nat.succ_ne_zero _)
  subst e
  have hlk2 : (if md = 998 then ipXL.contains (ipO mid, x) else ipSL.contains (ipO mid, x, md, nn)) = true := hlk
  rw [if_neg (by omega)] at hlk2
  have hin : (ipO mid, x, md, nn) ∈ ipSL := List.contains_iff_mem.mp hlk2
  have hr1 := List.all_eq_true.mp ipSL_r _ hin
  simp only [Bool.and_eq_true, decide_eq_true_eq] at hr1
  obtain ⟨hmd, hstat, hsig⟩ := hr1
  obtain ⟨g1, g2, g3, g4, g5, g6, g7⟩ := ipMeth hmd
  have cb0 := callB_of (R := R) (mc := mc) (ms := ms) (rm := ipRm d mc ms) nn hts (ipGood hmd) rfl rfl rfl (hts _ (ipTW_in g2 rfl)) (hts _ (ipTW_in (ipSL_w _ hin) rfl)) ⟨g5, g6, hsig⟩ ⟨hR.2.2.1, by show 8 + (ipM md + 11) + 64 * d ≤ R.locals; omega⟩
  refine ip_run (vs := As) (va_runS (As := As) (rest := rest) (nL := ipM mid) ⟨hx, hb, hml, hown, hts⟩ (hcall md _ h z mc ms P hmd hca) ⟨cb0, hts _ (ipTW_in hstat rfl)⟩ ⟨ipPc_blind, fun U hU hW => ⟨rfl, by rw [hU]; exact hw, hK.warm hW⟩⟩ rfl hA hl.1 hst (by show 2 * 0 + _ ≤ 8; omega) hd ⟨by rw [hR.1]; exact hc1, by rw [hR.2.1]; exact hs1⟩) hL fun o h2 z2 H1 locs1 hp hw1 hL1 => ?_
  exact hk o h2 z2 hp H1 locs1 ls hc1 hs1 hw1 hl hL1
theorem sd_objinit (C : ipX p s m args meth c D aC B0 bb cb sc mid) (hR : R.cells = MC ∧ R.slots = MS ∧ d + 1 ≤ R.frames ∧ 64 * (d + 1) ≤ R.locals) : ru_objinit sc call mid MC MS Q (ipJ p l e R s m args below meth c Z D aC B0 bb cb (ipM mid) MC MS) := by
  intro pc lv st h z k n x len b r hat hrest hk H locs ls h1 h2 hw hl hL
  obtain ⟨hd, hlk, hlen⟩ := ipAt_all hat
  obtain ⟨hx, hb, hml, hown, hts, hK, -, hbb, -⟩ := C
  have e : len = 3 := hlen (Nat.succ_ne_zero _)
  subst e
  have hlk2 : (if (999 : Nat) = 999 then ipOL.contains (ipO mid, x) else ipIL.contains (ipO mid, x, 999, b) || ipNL.contains (ipO mid, x, 999, b)) = true := hlk
  rw [if_pos rfl] at hlk2
  have hin : (ipO mid, x) ∈ ipOL := List.contains_iff_mem.mp hlk2
  exact W.objInit hx hb hown (hts _ (ipTW_in (ipOL_w _ hin) rfl)) (hts _ (ipTW_in ipMisc.1 rfl)) (hts _ (ipTW_in ipMisc.2.1 rfl)) rfl (hl.1.trans hml.symm) rfl hd (by omega) (by show 2 * 0 + _ + 12 ≤ R.locals; omega) (hk H locs ls h1 h2 hw hl hL)
theorem sd_copy (C : ipX p s m args meth c D aC B0 bb cb sc mid) (hR : R.cells = MC ∧ R.slots = MS ∧ d + 1 ≤ R.frames ∧ 64 * (d + 1) ≤ R.locals) : ru_copy sc call mid MC MS Q (ipJ p l e R s m args below meth c Z D aC B0 bb cb (ipM mid) MC MS) := by
  intro pc lv st h z k nq x len b a0 a n0 n1 f g sp dp n hat hrest hr0 hr1 k1 k2 k3 k4 k5 hne hk H locs ls h1 h2 hw hl hL
  obtain ⟨hd, hlk, hlen⟩ := ipAt_all hat
  obtain ⟨hx, hb, hml, hown, hts, hK, -, hbb, -⟩ := C
  have e : len = 3 := hlen (Nat.succ_ne_zero _)
  subst e
  have hlk2 : (if (998 : Nat) = 998 then ipXL.contains (ipO mid, x) else ipSL.contains (ipO mid, x, 998, b)) = true := hlk
  rw [if_pos rfl] at hlk2
  have hin : (ipO mid, x) ∈ ipXL := List.contains_iff_mem.mp hlk2
  obtain ⟨-, -, w1, w2, w3⟩ := ipMisc
  have nn : ∀ z : Int32, ¬ z < 0 → z.toInt = (z.toNatClampNeg : Int) := by
    intro z hz
    have hz0 : (0 : Int) ≤ z.toInt := by
      have := Int32.not_lt.mp hz
      simpa using Int32.le_iff_toInt_le.mp this
    show z.toInt = ((z.toInt.toNat : Nat) : Int)
    omega
  obtain ⟨hB, hc1⟩ := hw.2.2.2 a _ hr1
  have hc0 := (hw.2.2.2 a0 _ hr0).2
  have hc0 : H[a0]? = some (vp_cell (aC 0) (n0, .inl f)) := hc0
  have hc1 : H[a]? = some (vp_cell (aC 0) (n1, .inl g)) := hc1
  intro T hT X
  obtain ⟨-, k0, hk0, cm0, hkk0⟩ := (hK.1.2 0 _ rfl).1 n0 (fun j => .int (f j))
  obtain ⟨-, k1', hk1, cm1, hkk1⟩ := (hK.1.2 0 _ rfl).1 n1 (fun j => .int (g j))
  obtain ⟨vm', X', step⟩ := X.arraycopy hx hown (hts _ (ipTW_in (ipXL_w _ hin) rfl)) (hts _ (ipTW_in w1 rfl)) (hts _ (ipTW_in w2 rfl)) (hts _ (ipTW_in w3 rfl)) (src := a0) (dst := a) (cs := vp_cell (aC 0) (n0, .inl f)) (cd := vp_cell (aC 0) (n1, .inl g)) (srcPos := sp) (destPos := dp) (n := n) (by rw [hT]; exact hc0) (by rw [hT]; exact hc1)
    (fun _ h => by cases h) (fun _ h => by cases h) (fun h => by cases h) (fun h => by cases h) hk0 hk1 hkk0 hkk1 (by rfl) k1 k2 k3
    (by rw [nn sp k1, nn n k3]; show ¬ _ > ((arrV (aC 0) n0 (fun j => .int (f j))).slots.size : Int); rw [arrV_size]; omega)
    (by rw [nn dp k2, nn n k3]; show ¬ _ > ((arrV (aC 0) n1 (fun j => .int (g j))).slots.size : Int); rw [arrV_size]; omega)
    (fun vm₁ _ i hi => by
      have e : (vp_cell (aC 0) (n0, .inl f)).slots.getD (sp.toNatClampNeg + i) .null = .int (f (sp.toNatClampNeg + i)) := by
        show (arrV (aC 0) n0 (fun j => .int (f j))).slots.getD _ _ = _
        rw [Array.getD_eq_getD_getElem?, arrV_read _ _ (by omega)]
        rfl
      refine ⟨?_, ?_⟩
      · rw [e]
        rfl
      · rw [e]
        exact trivial)
    (g := F0 m pc ls (.int n :: .int dp :: .ref a :: .int sp :: .ref a0 :: st)) rfl (hl.1.trans hml.symm) (rest := st) rfl (by rw [hb]; exact hd) (by omega) (by show 2 * 0 + _ + (7 + 11) ≤ _; omega)
  have e1 : copied (vp_cell (aC 0) (n0, .inl f)) (vp_cell (aC 0) (n1, .inl g)) sp dp n = vp_cell (aC 0) (n1, .inl (va_cpy f g sp.toNatClampNeg dp.toNatClampNeg n.toNatClampNeg)) := va_copied (fun z => .int z) (aC 0) (aC 0) f g k4
  rw [e1] at X' step
  have hl2 : a < H.size := (Array.getElem?_eq_some_iff.mp hc1).1
  have hheap : ((T.setVm vm').setCell a (vp_cell (aC 0) (n1, .inl (va_cpy f g sp.toNatClampNeg dp.toNatClampNeg n.toNatClampNeg)))).heap = H.setIfInBounds a (vp_cell (aC 0) (n1, .inl (va_cpy f g sp.toNatClampNeg dp.toNatClampNeg n.toNatClampNeg))) := by rw [← hT]; rfl
  have oq : ∀ q : Nat, q ≠ a → (H.setIfInBounds a (vp_cell (aC 0) (n1, .inl (va_cpy f g sp.toNatClampNeg dp.toNatClampNeg n.toNatClampNeg))))[q]? = H[q]? := fun q hq => by simp [Array.getElem?_setIfInBounds, Ne.symm hq]
  obtain ⟨t, a1, b1⟩ := hk _ _ ls h1 h2 (hw.put (x1 := .inl (0, n1, .inl (va_cpy f g sp.toNatClampNeg dp.toNatClampNeg n.toNatClampNeg))) hbb hr1 (by simp) oq (show (H.setIfInBounds a _)[a]? = some _ by simp [Array.getElem?_setIfInBounds, hl2])) hl (fun q hq => by
      rcases List.mem_append.mp hq with h | h
      · exact hL q h
      · obtain ⟨z, -, hz⟩ := List.mem_map.mp h
        rw [← hz]
        exact hB) _ hheap X'
  exact ⟨t, step t a1, b1⟩
/-- what is proved by the rules holds of the machine -/
theorem ip_sound (C : ipX p s m args meth c D aC B0 bb cb sc mid) (hR : R.cells = MC ∧ R.slots = MS ∧ d + 1 ≤ R.frames ∧ 64 * (d + 1) ≤ R.locals) (hcall : ∀ (md : Nat) (vs : List Value) (h : HP) (z mc ms : Nat) (P : ipQ), md < 152 → call md vs h z mc ms P → Met l (ipY md) (ipWs md) (ipRm d mc ms) (ipPc D aC B0 bb cb sc vs h z) (ipQc D aC B0 bb cb P) mc ms (fun q => B0 ≤ q))
    (z1 : ru_iret sc call mid MC MS Q (ipJ p l e R s m args below meth c Z D aC B0 bb cb (ipM mid) MC MS)) (z2 : ru_vret sc call mid MC MS Q (ipJ p l e R s m args below meth c Z D aC B0 bb cb (ipM mid) MC MS)) (z3 : ru_aret sc call mid MC MS Q (ipJ p l e R s m args below meth c Z D aC B0 bb cb (ipM mid) MC MS))
    {pc : Nat} {lv : ipV} {st : List Value} {h : HP} {z k n : Nat} (hi : ip sc call mid MC MS Q pc lv st h z k n) : ipJ p l e R s m args below meth c Z D aC B0 bb cb (ipM mid) MC MS pc lv st h z k n :=
  hi _ ⟨sd_weak, sd_con C, sd_load C, sd_store C, sd_iinc C, sd_bin C, sd_lbin C, sd_lsh C, sd_cv C, sd_lcmp C, sd_icmp C, sd_if0 C, sd_goto C, sd_tab C, sd_nonnull C, sd_isnull C, sd_dup C, sd_dup2 C, sd_pop C, sd_getf C, sd_putf C, sd_iald C, sd_bald C, sd_lald C, sd_aald C, sd_sald C, sd_alen C, sd_slen C, sd_iast C, sd_bast C, sd_zast C, sd_last C, sd_aast C, sd_new C ⟨hR.1, hR.2.1⟩, sd_newa C ⟨hR.1, hR.2.1⟩, sd_newq C ⟨hR.1, hR.2.1⟩, z1, z2, z3, sd_virt C hR hcall, sd_spec C hR hcall, sd_stat C hR hcall, sd_objinit C hR, sd_copy C hR⟩
end IPS
theorem ipIn_ok {nL : Nat} {vs : List Value} (hle : (ipArgs vs).length ≤ nL) {ls : Array Slot} (h : lv_has ls nL (lv_args 0 vs)) : ipL ls nL (ipIn nL vs) := by
  refine ⟨h.1, h.2.1, by unfold ipIn; simp; omega, fun n v hn => ?_⟩
  have key : ∀ (vs : List Value) (k n : Nat) (v : Value), (ipArgs vs)[n]? = some (some v) → (k + n, v) ∈ lv_args k vs := by
    intro vs
    induction vs with
    | nil => intro k n v hn; simp [ipArgs] at hn
    | cons w ws ih =>
      intro k n v hn
      unfold ipArgs at hn
      unfold lv_args
      by_cases hc : w.category = 2
      · rw [if_pos hc] at hn
        rw [if_pos hc]
        match n, hn with
        | 0, hn => simp at hn; rw [hn]; exact List.mem_cons_self
        | 1, hn => simp at hn
        | n + 2, hn =>
          have := ih (k + 2) n v (by simpa using hn)
          rw [show k + (n + 2) = k + 2 + n by omega]
          exact List.mem_cons_of_mem _ this
      · rw [if_neg hc] at hn
        rw [if_neg hc]
        match n, hn with
        | 0, hn => simp at hn; rw [hn]; exact List.mem_cons_self
        | n + 1, hn =>
          have := ih (k + 1) n v (by simpa using hn)
          rw [show k + (n + 1) = k + 1 + n by omega]
          exact List.mem_cons_of_mem _ this
  unfold ipIn at hn
  by_cases hl : n < (ipArgs vs).length
  · rw [List.getElem?_append_left hl] at hn
    have := h.2.2 _ (key vs 0 n v hn)
    simpa using this
  · rw [List.getElem?_append_right (by omega), List.getElem?_replicate] at hn
    split at hn
    · simp at hn
    · cases hn
theorem ipArgs_len : ∀ vs : List Value, (lg_sl vs).length = (ipArgs vs).length
  | [] => rfl
  | v :: vs => by
    have ih := ipArgs_len vs
    unfold ipArgs
    simp only [lg_sl, List.flatMap_cons, List.length_append] at ih ⊢
    rw [ih]
    cases v <;> simp [Value.category, slotsOf] <;> omega
end
section
/-! every method, by its rules; the law's start -/
set_option maxHeartbeats 4000000 in
theorem ip_met (l : Launch) {D : va_G} {aC : Nat → Nat} {B0 bb : Nat} {cb : Cell} {sc : ipSc} (hbb : bb < B0) (hsc : sc.1 = bb) : ∀ (d md : Nat) (vs : List Value) (h : HP) (z MC MS : Nat) (Q : ipQ), md < 152 → ipC sc d md vs h z MC MS Q → Met l (ipY md) (ipWs md) (ipRm d MC MS) (ipPc D aC B0 bb cb sc vs h z) (ipQc D aC B0 bb cb Q) MC MS (fun q => B0 ≤ q)
  | 0, _, _, _, _, _, _, _, _, hc => hc.elim
  | d + 1, md, vs, h, z, MC, MS, Q, hmd, hc => by
    obtain ⟨hle, hip⟩ := hc
    obtain ⟨g1, g2, g3, g4, g5, g6, g7⟩ := ipMeth hmd
    refine Met.ofW (cc := ipB md) (maxL := ipM md) (ret := ipR md) g7 rfl ?_
    intro p e s m args below meth c s₁ B hml hv
    obtain ⟨rfl, hw, hK⟩ := hv
    have hx := B.exec
    have hb := B.bytes
    have hr := B.returns
    have hts := atoms_spec (ws := ipWs md) B.pre
    have hown : s.vm.findClass (ipY md).cls = some m.cls := findClass_of_methodNamed B.named
    have hlocks := B.notSynchronized
    have hin : meth.name = (ipY md).name := (name_of_methodNamed B.named B.method).1
    rw [g4] at hown
    have C : ipX p s m vs.toArray meth c D aC B0 bb cb sc md := ⟨hx, hb, hml, hown, fun w hw => hts w (List.mem_cons_of_mem _ hw), hK, fun q => hin.trans q, hbb, hsc⟩
    have hl := lv_entry vs (n := ipM md) (by rw [ipArgs_len]; exact hle)
    rw [lg_entry_eq]
    generalize (lg_sl vs ++ List.replicate (ipM md - (lg_sl vs).length) Slot.unset).toArray = ls at hl ⊢
    have hl2 := ipIn_ok hle hl
    have hR : (headSpec (ipWs md) (ipRm (d + 1) MC MS)).room.cells = MC ∧ (headSpec (ipWs md) (ipRm (d + 1) MC MS)).room.slots = MS ∧ d + 1 ≤ (headSpec (ipWs md) (ipRm (d + 1) MC MS)).room.frames ∧ 64 * (d + 1) ≤ (headSpec (ipWs md) (ipRm (d + 1) MC MS)).room.locals := ⟨rfl, rfl, Nat.le_refl _, Nat.le_refl _⟩
    refine ip_sound (d := d) (Z := MQ below (ipQc D aC B0 bb cb Q) vs.toArray s MC MS (fun q => B0 ≤ q)) C hR (fun md2 vs2 h2 z2 mc ms P hm2 hc2 => ip_met l hbb hsc d md2 vs2 h2 z2 mc ms P hm2 hc2) ?_ ?_ ?_ hip s.heap [] ls (Nat.zero_le _) (Nat.zero_le _) hw hl2 (fun q hq => by cases hq)
    · intro pc lv st h2 z2 k n len a b v ty hat hr2 hn hq H locs ls2 k1 k2 hw2 hl3 hL
      obtain ⟨hd, hlk, hlen⟩ := ipAt_all hat
      have e1 : len = 1 := hlen (Nat.succ_ne_zero _)
      subst e1
      refine W.widen k1 k2 ?_
      exact W.zret hx hb (hr.trans hr2) hn (fun t ht _ => ⟨_, _, _, rfl, hq, by rw [ht]; exact hw2⟩) hL hd
    · intro pc lv st h2 z2 k n len a b hat hr2 hq H locs ls2 k1 k2 hw2 hl3 hL
      obtain ⟨hd, hlk, hlen⟩ := ipAt_all hat
      have e1 : len = 1 := hlen (Nat.succ_ne_zero _)
      subst e1
      refine W.widen k1 k2 ?_
      exact W.vret hx hb (hr.trans hr2) (fun t ht _ => ⟨_, _, _, rfl, hq, by rw [ht]; exact hw2⟩) hL hd
    · intro pc lv st h2 z2 k n len a b r o hat hr2 hq H locs ls2 k1 k2 hw2 hl3 hL
      obtain ⟨hd, hlk, hlen⟩ := ipAt_all hat
      have e1 : len = 1 := hlen (Nat.succ_ne_zero _)
      subst e1
      refine W.widen k1 k2 ?_
      exact W.aret hx hb (hr.trans hr2) (Or.inl ⟨o, rfl⟩) (Or.inr ⟨r, rfl⟩) (fun t ht _ => ⟨_, _, _, rfl, hq, by rw [ht]; exact hw2⟩) hL hd
-- the classes at the start
theorem ipKn0 {args : Array Value} {s : State} (hts : ∀ w ∈ lw_tbl, w.before args s = true) {ci : Nat} (hci : ci < 10) : ∃ (cC : ClassId) (iS : Nat → Nat), u_Kn s (ipCN ci) (ipTf ci) (ipN ci) cC iS := by
  have hall : (List.range 10).all (fun ci => decide (Cond.instantiable (ipCN ci) (ipN ci) ∈ lw_tbl)) = true := by decide +kernel
  have h1 := of_decide_eq_true (List.all_eq_true.mp hall ci (List.mem_range.mpr hci))
  exact u_known (n := ipN ci) hts (fun w hw => (List.mem_filter.mp (ipLay hci w hw)).1) (hts _ h1)
theorem ipKn {args : Array Value} {s : State} (hts : ∀ w ∈ lw_tbl, w.before args s = true) : ∃ D : va_G, ∀ (k : Nat) (q : vw_C), vwCl[k]? = some q → u_Kn s q.1 q.2.1 q.2.2 (D.1 k) (D.2 k) := by
  have h : ∀ k, ∃ r : ClassId × (Nat → Nat), k < 10 → u_Kn s (ipCN k) (ipTf k) (ipN k) r.1 r.2 := by
    intro k
    by_cases hk : k < 10
    · obtain ⟨a, b, hab⟩ := ipKn0 hts hk
      exact ⟨(a, b), fun _ => hab⟩
    · exact ⟨(0, fun _ => 0), fun q => absurd q hk⟩
  refine ⟨(fun k => (Classical.choose (h k)).1, fun k => (Classical.choose (h k)).2), fun k q hq => ?_⟩
  have hk : k < 10 := (List.getElem?_eq_some_iff.mp hq).1
  have hc := ipCls hk
  rw [hc] at hq
  cases hq
  exact Classical.choose_spec (h k) hk
theorem ipAr {args : Array Value} {s : State} (hts : ∀ w ∈ lw_tbl, w.before args s = true) : ∃ aC : Nat → Nat, ∀ (k : Nat) (q : ClassId × FieldType), (ipTys aC)[k]? = some q → ArrOfT s q.1 q.2 ∧ va_RA s q.1 q.2 := by
  have hao : (List.range 3).all (fun t => decide (Cond.arrayOver (.object (ipAC (t + 4))) ∈ lw_tbl)) = true := by decide +kernel
  have h : ∀ k, ∃ cA : Nat, k < 7 → ArrOfT s cA (ipATy k) ∧ va_RA s cA (ipATy k) := by
    intro k
    by_cases h4 : k < 4
    · obtain ⟨cc, kk, comp, e1, e2, e3⟩ := Cond.arrayClass_spec (hts _ (ipNA_w k h4))
      refine ⟨cc, fun _ => ⟨fun n z => ⟨fun j h => (by cases h), kk, e2, comp, e3⟩, ?_⟩⟩
      match k, h4, e1 with
      | 0, _, e1 => exact e1
      | 1, _, e1 => exact e1
      | 2, _, e1 => exact e1
      | 3, _, e1 => exact e1
      | n + 4, h, _ => exact absurd h (by omega)
    · by_cases h7 : k < 7
      · have hw := of_decide_eq_true (List.all_eq_true.mp hao (k - 4) (List.mem_range.mpr (by omega)))
        rw [show k - 4 + 4 = k by omega] at hw
        obtain ⟨comp, cc, kk, e1, e2, e3, e4, e5⟩ := Cond.arrayOver_spec (hts _ hw)
        refine ⟨cc, fun _ => ?_⟩
        rw [ipATy_o (by omega) h7]
        exact ⟨fun n z => ⟨fun j h => (by cases h), kk, e3, comp, e4⟩, kk, comp, e3, e4, e1, e5⟩
      · exact ⟨0, fun q => absurd q h7⟩
  refine ⟨fun k => Classical.choose (h k), fun k q hq => ?_⟩
  have hk : k < 7 := (List.getElem?_eq_some_iff.mp hq).1
  rw [ipTys_at hk] at hq
  cases hq
  exact Classical.choose_spec (h k) hk
def lawDepth : Nat := 100
def lawQ : ipQ := fun o _ _ => o = some (.int 1)
/-- what is left to prove: over the rules, the law answers 1 -/
def LawGoal : Prop := ∀ (b L z : Nat) (xs : Nat → Int32), L ≤ 3584 → b < z → ip (b, L, xs) (ipC (b, L, xs) lawDepth) 152 600000 7302250 lawQ 0 [some (.ref b), none, none, none] [] (fun _ => none) z 0 0
end
section
/-! THE CLAIM OUT OF ONE WALK OF THE LAW'S BODY. Your part is whole_start (and what it stands on); all else here is the same for every law, but numbers. -/
def R_law : String := "SproutTableLaw"
def lw_P (b : Addr) (xs : List Int32) (args : Array Value) (s : State) : Prop := args = #[.ref b] ∧ s.IntsAt b xs ∧ xs.length ≤ 3584 ∧ (Jvm.Cond.and given_1 narrow_1).before args s = true
def lw_Q (_ : Array Value) (s : State) (o : Outcome) (t : State) : Prop := o = .returned (some (.int 1)) ∧ Framed s o t [] 600000 7302250
def lw_Z (below : List Frame) (a : Array Value) (s : State) : State → Prop := fun t => ∃ o, t.status = .running ∧ Ended t below o ∧ lw_Q a s o t
/-- the law's own end, with 1 on the stack, nothing written that was there before, its room as the claim has it -/
theorem lw_ret {p : Program} {l : Launch} {e : Env} {s : State} {m : MethodId} {below : List Frame} {meth : Method} {c : Code} {b : Nat} (hx : p.tables.exec = Jvm.exec) (hb : c.code = code) (hr : meth.sig.returnType = ret) (hlocks : meth.locks = false) {pc : Nat} {H : Heap} {ls : Array Slot} (hdg : decode code pc = .ok (.ireturn, 1)) : W p l e room_1 s m #[Value.ref b] below meth c H [] 600000 7302250 (lw_Z below #[Value.ref b] s) (F0 m pc ls [.int 1]) := by
  intro T hT X
  obtain ⟨fs, hret, hrun, hended, hW, hframe⟩ := X.leave (v := some (.int 1)) (hlocks := hlocks) (fun h => by rw [hr] at h; cases h)
  have hmeth' : T.vm.method? m = some meth := X.method'
  refine ⟨T.setFrames fs, ?_, .returned (some (.int 1)), hrun, hended, rfl, ⟨_, rfl⟩, hW, hframe⟩
  jvm_step X.here [X.here.top, hx, hb, hdg, hmeth', hr, ret, narrow_b1]
  (try refine ⟨rfl, ?_⟩); (try refine ⟨rfl, ?_⟩)
  first | (intro acts; rw [hret _ acts rfl rfl rfl]) | rw [hret _ _ rfl rfl rfl]
  exact Steps.refl _
/-- what holds at the law's entry: the machine, the code, the tables' words (any of lw_tbl by 'hts w (by decide +kernel)'), the script of L ints xs at the cell b, what the Statement gives of the start (any of its parts by flat_of_before) -/
def lw_At (p : Program) (s : State) (m : MethodId) (meth : Method) (c : Code) (b L : Nat) (xs : Nat → Int32) : Prop :=
  p.tables.exec = Jvm.exec ∧ c.code = code ∧ meth.sig.returnType = ret ∧ c.maxLocals = 4 ∧ s.vm.findClass R_law = some m.cls ∧ (∀ w ∈ lw_tbl, w.before #[Value.ref b] s = true) ∧ va_X b L xs s s.heap ∧ b < s.heap.size ∧ meth.locks = false ∧ (Jvm.Cond.and given_1 narrow_1).before #[Value.ref b] s = true
set_option maxHeartbeats 4000000 in
theorem whole_of (hgoal : LawGoal) {p : Program} {e : Env} {s : State} {m : MethodId} {below : List Frame} {meth : Method} {c : Code} (l : Launch) {b L : Nat} {xs : Nat → Int32} (hL : L ≤ 3584) (C0 : lw_At p s m meth c b L xs) : W p l e room_1 s m #[Value.ref b] below meth c s.heap [] 0 0 (lw_Z below #[Value.ref b] s) (entryFrame m ([Value.ref b] : List Value).toArray 4) := by
  obtain ⟨hx, hb, hr, hml, hown, hts, hX, hbl, hlocks, hgv⟩ := id C0
  obtain ⟨D, hD⟩ := ipKn hts
  obtain ⟨aC, hA⟩ := ipAr hts
  obtain ⟨scr, x1, x2, x3, x4, x5⟩ := hX
  have hK : ipK D aC scr (b, L, xs) s := by
    refine ⟨⟨hD, hA⟩, ⟨x2, x3, x4, x5⟩, fun q hq => va_Nw.of rfl (hts _ (ipNL_w q hq)), fun t h4 h7 => ?_⟩
    have hao : (List.range 3).all (fun t => decide (Cond.arrayOver (.object (ipAC (t + 4))) ∈ lw_tbl)) = true := by decide +kernel
    have hw := of_decide_eq_true (List.all_eq_true.mp hao (t - 4) (List.mem_range.mpr (by omega)))
    rw [show t - 4 + 4 = t by omega] at hw
    exact va_AO.of (hts _ hw)
  have hMn : (ipY 152).name = "<init>" → meth.name = "<init>" := fun q => absurd q (by decide +kernel)
  have C : ipX p s m #[Value.ref b] meth c D aC s.heap.size b scr (b, L, xs) 152 := ⟨hx, hb, hml, hown, fun w hw => hts w (List.mem_filter.mp hw).1, hK, hMn, hbl, rfl⟩
  have hl := lv_entry ([.ref b]) (n := 4) (Nat.le_of_ble_eq_true rfl)
  rw [lg_entry_eq]
  generalize (lg_sl ([.ref b]) ++ List.replicate (4 - (lg_sl ([.ref b])).length) Slot.unset).toArray = ls at hl ⊢
  have hl2 : ipL ls 4 (ipIn 4 [.ref b]) := ipIn_ok (Nat.le_of_ble_eq_true rfl) hl
  have hR : room_1.cells = 600000 ∧ room_1.slots = 7302250 ∧ lawDepth + 1 ≤ room_1.frames ∧ 64 * (lawDepth + 1) ≤ room_1.locals := ⟨rfl, rfl, by decide, by decide⟩
  refine ip_sound (d := lawDepth) (Z := lw_Z below #[Value.ref b] s) (Q := lawQ) C hR (fun md2 vs2 h2 z2 mc ms P hm2 hc2 => ip_met l hbl rfl lawDepth md2 vs2 h2 z2 mc ms P hm2 hc2) ?_ ?_ ?_ (hgoal b L s.heap.size xs hL hbl) s.heap [] ls (Nat.zero_le _) (Nat.zero_le _) ⟨rfl, x1, Nat.le_refl _, fun a x q => by cases q⟩ hl2 (fun q hq => by cases hq)
  · intro pc lv st h2 z2 k n len a b2 v ty hat hr2 hn hq H locs ls2 k1 k2 hw2 hl3 hLo
    obtain ⟨hd, hlk, hlen⟩ := ipAt_all hat
    have e1 : len = 1 := hlen (Nat.succ_ne_zero _)
    subst e1
    cases hq
    refine va_forget hLo (W.widen k1 k2 ?_)
    exact lw_ret hx hb hr hlocks hd
  · intro pc lv st h2 z2 k n len a b2 hat hr2 hq
    cases hq
  · intro pc lv st h2 z2 k n len a b2 r o hat hr2 hq
    cases hq
end
section
theorem law_goal : LawGoal := sorry
end
section
theorem whole_start {p : Program} {e : Env} {s : State} {m : MethodId} {below : List Frame} {meth : Method} {c : Code} (l : Launch) {b L : Nat} {xs : Nat → Int32} (hL : L ≤ 3584) (C0 : lw_At p s m meth c b L xs) : W p l e room_1 s m #[Value.ref b] below meth c s.heap [] 0 0 (lw_Z below #[Value.ref b] s) (entryFrame m ([Value.ref b] : List Value).toArray 4) := whole_of law_goal l hL C0
set_option maxHeartbeats 4000000 in
theorem lw_walk (l : Launch) (b : Addr) (xs : List Int32) : MetFree l x (headSpec (Jvm.Cond.code x code maxLocals ret :: tables_1) room_1) (lw_P b xs) (fun _ _ _ _ _ => True) lw_Q := by
  refine MetFree.of_bodyS (code := code) (maxLocals := maxLocals) (ret := ret) (by decide) ?_ ?_
  · intro args s m h hn
    obtain ⟨meth, c, h1, h2, h3, h4, h5, h6, -, -⟩ := Cond.code_spec hn (atoms_spec (ws := Jvm.Cond.code x code maxLocals ret :: tables_1) h _ List.mem_cons_self)
    exact ⟨meth, c, h1, h2, h3, h4, h5, h6⟩
  · intro p e s m args below meth c s₁ B hml0 hP _
    obtain ⟨rfl, hx, hbd, hgv⟩ := hP
    obtain ⟨scr, harrAt, hlist, hof, hsmall⟩ := hx
    obtain ⟨hcb, hkn, -, -⟩ := State.arrayAt?_spec harrAt
    have hown : s.vm.findClass R_law = some m.cls := findClass_of_methodNamed B.named
    have hts0 : ∀ c ∈ (Jvm.Cond.code x code maxLocals ret :: tables_1), c.before #[Value.ref b] s = true := atoms_spec (ws := Jvm.Cond.code x code maxLocals ret :: tables_1) B.pre
    have hts : ∀ w ∈ lw_tbl, w.before #[Value.ref b] s = true := k2_hts_sels lw_privs (fun w hw => hts0 w (List.mem_cons_of_mem _ hw)) lw_privs_ok
    have hml : c.maxLocals = 4 := B.maxLocals_eq (hts0 _ List.mem_cons_self)
    have X₀ : Stand p l e room_1 s m #[Value.ref b] below meth c s₁ [] 0 0 := Stand.of_body B
    have hh0 : s₁.heap = s.heap := by rw [B.state]; rfl
    have hsz : scr.slots.size = xs.length := by rw [← Array.length_toList, hlist, List.length_map]
    have hval : ∀ j : Nat, j < xs.length → scr.slots[j]? = some (.int (xs.getD j 0)) := fun j hj => by
      rw [← Array.getElem?_toList, hlist]
      simp [hj]
    have hbl : b < s.heap.size := (Array.getElem?_eq_some_iff.mp hcb).1
    have hX : va_X b xs.length (fun j => xs.getD j 0) s s.heap := ⟨scr, hcb, hof, hkn, hsz, hval⟩
    have K : W p l e room_1 s m #[Value.ref b] below meth c s₁.heap [] 0 0 (lw_Z below #[Value.ref b] s) (entryFrame m ([Value.ref b] : List Value).toArray 4) := by
      rw [hh0]
      exact whole_start l hbd ⟨B.exec, B.bytes, B.returns, hml, hown, hts, hX, hbl, B.notSynchronized, hgv⟩
    obtain ⟨t, a1, o, b1, b2, b3⟩ := K s₁ rfl X₀
    exact ⟨t, o, a1, b1, b2, b3⟩
theorem lw_pre_spec {args : Array Value} {s : State} (h : (Jvm.Cond.and given_1 narrow_1).before args s = true) (hr : rest_1_c.before args s = true) : ∃ (b : Addr) (xs : List Int32), lw_P b xs args s := by
  have hs := flat_of_before _ h
  have hq := flat_of_before _ hr
  have hc : (Cond.count 1).before args s = true := hs _ (by decide +kernel)
  have harr : (Cond.arrayOf (.arg 0) .int).before args s = true := hs _ (by decide +kernel)
  have hle : (Cond.le (.length (.arg 0)) (.int 3584)).before args s = true := hs _ (by decide +kernel)
  have hlen : (Cond.isInt (.length (.arg 0))).before args s = true := hq _ (by decide +kernel)
  have hall : (Cond.all (.arg 0) (.isInt (.elem (.arg 0) (.index 0)))).before args s = true := hq _ (by decide +kernel)
  obtain ⟨b, xs, hb, hx⟩ := State.ints_of_pre rfl harr hlen hall
  have hsm : xs.length < 2 ^ 31 := hx.choose_spec.2.2.2
  have hev : (Term.length (.arg 0)).eval args s none [] s = some (.int xs.length.toInt32) := hx.length_eval hb
  have hv := Cond.le_ints hev (show (Term.int 3584).eval args s none [] s = some (.int 3584) from rfl)
  have hd : xs.length.toInt32 ≤ 3584 := by
    simpa [Cond.before, Cond.holds, hv] using hle
  have hN : xs.length ≤ 3584 := (Int32.ofNat_le_ofNat hsm (by decide)).mp (show Int32.ofNat xs.length ≤ Int32.ofNat 3584 from hd)
  exact ⟨b, xs, Cond.one_arg hc (show args[0]? = some (.ref b) from hb), hx, hN, h⟩
theorem lw_comes (l : Launch) : Comes l x (Jvm.Cond.code x code maxLocals ret :: tables_1) room_1 (fun tb e args s => Calls_1 tb e args s ∧ rest_1 tb e args s ∧ Pre_1 tb e args s)
    (fun _ _ args s o t => lw_Q args s o t) := by
  intro p e ha hc hk s m args below hf hfit hheap happ hpre
  obtain ⟨b, xs, hP⟩ := lw_pre_spec hpre.2.2 hpre.2.1
  obtain ⟨k, o, h1, h2, h3, hQ⟩ := lw_walk l b xs p e ha hc hk s m args below hf ((Spec.applies_iff_loose hf).mp happ).1 hP trivial
  exact ⟨k, o, h1, h2, h3, hQ⟩
theorem lw_frame {s t : State} {o : Outcome} {args : Array Value} (h : Framed s o t [] 600000 7302250) :
    Framed s o t (fieldLocs frame_1_writes args s ++ arrayLocs frame_1_arrays args s ++ staticLocs frame_1_statics s) 600000 7302250 := h
theorem lw_limb (L : Cond) (hL : ∀ (args : Array Value) (s t : State), L.after args s (.returned (some (.int 1))) t = true) :
    ArmFor flags0 classFile x code maxLocals ret World_1 tables_1 room_1 Calls_1 rest_1 Pre_1
      (fun tb e a s o t => postC L tb e a s o t ∧ Framed s o t (fieldLocs frame_1_writes a s ++ arrayLocs frame_1_arrays a s ++ staticLocs frame_1_statics s) 600000 7302250) := by
  intro l _ _ _ p e ha hc hk s m args below hf hfit hheap happ hpre
  obtain ⟨k, o, h1, h2, h3, rfl, hF⟩ := lw_comes l p e ha hc hk s m args below hf hfit hheap happ hpre
  exact ⟨k, _, h1, h2, h3, hL args s _, lw_frame hF⟩
theorem i_vc : Claimed_1_1 ∧ Claimed_1_2 := ⟨lw_limb limb_1_1 (fun args s t => by simp [limb_1_1, Cond.after, Cond.holds, Cond.value]), lw_limb limb_1_2 (fun args s t => Cond.after_iff.mpr (by
  first | (rw [show limb_1_2 = Cond.eq .result (.int 1) from rfl, Cond.eq_ints (x := 1) (y := 1) rfl rfl]; simp; done) | (simp [limb_1_2, Cond.value, Term.eval]; done)))⟩
end
