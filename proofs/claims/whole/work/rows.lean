section
-- ===== PART A: goes FIRST, ahead of the names: the tables' words, and 'selects' of the private methods out of them =====
/-- a private method of a class that the tables say can be made, by its rows of tables_1 -/
def lw_okq (q : MethodName × Nat) : Prop := (q.1.cls ≠ "java/lang/invoke/MethodHandle" ∧ q.1.cls ≠ "java/lang/invoke/VarHandle") ∧ Cond.instantiable q.1.cls q.2 ∈ tables_1 ∧ Cond.privateMethod q.1 ∈ tables_1 ∧ Cond.instanceMethod q.1 ∈ tables_1
theorem lw_p0 : lw_okq (⟨"PageLayouter", "exists", "(I)Z"⟩, 4) := ⟨⟨by decide +kernel, by decide +kernel⟩, List.mem_of_getElem? (i := 20) (by decide +kernel), List.mem_of_getElem? (i := 190) (by decide +kernel), List.mem_of_getElem? (i := 191) (by decide +kernel)⟩
theorem lw_p1 : lw_okq (⟨"java/lang/Throwable", "fillInStackTrace", "(I)Ljava/lang/Throwable;"⟩, 6) := ⟨⟨by decide +kernel, by decide +kernel⟩, List.mem_of_getElem? (i := 233) (by decide +kernel), List.mem_of_getElem? (i := 231) (by decide +kernel), List.mem_of_getElem? (i := 232) (by decide +kernel)⟩
theorem lw_p2 : lw_okq (⟨"PageLayouter", "findRoles", "()V"⟩, 4) := ⟨⟨by decide +kernel, by decide +kernel⟩, List.mem_of_getElem? (i := 20) (by decide +kernel), List.mem_of_getElem? (i := 328) (by decide +kernel), List.mem_of_getElem? (i := 329) (by decide +kernel)⟩
theorem lw_p3 : lw_okq (⟨"PageLayouter", "findCores", "()V"⟩, 4) := ⟨⟨by decide +kernel, by decide +kernel⟩, List.mem_of_getElem? (i := 20) (by decide +kernel), List.mem_of_getElem? (i := 339) (by decide +kernel), List.mem_of_getElem? (i := 340) (by decide +kernel)⟩
theorem lw_p4 : lw_okq (⟨"PageLayouter$Columns", "measureRow", "(LPageLayouter$Box;I)V"⟩, 4) := ⟨⟨by decide +kernel, by decide +kernel⟩, List.mem_of_getElem? (i := 139) (by decide +kernel), List.mem_of_getElem? (i := 358) (by decide +kernel), List.mem_of_getElem? (i := 359) (by decide +kernel)⟩
theorem lw_p5 : lw_okq (⟨"PageLayouter", "giveWidths", "(I)V"⟩, 4) := ⟨⟨by decide +kernel, by decide +kernel⟩, List.mem_of_getElem? (i := 20) (by decide +kernel), List.mem_of_getElem? (i := 435) (by decide +kernel), List.mem_of_getElem? (i := 436) (by decide +kernel)⟩
theorem lw_p6 : lw_okq (⟨"PageLayouter$Columns", "widen", "(LPageLayouter$Box;II)V"⟩, 4) := ⟨⟨by decide +kernel, by decide +kernel⟩, List.mem_of_getElem? (i := 139) (by decide +kernel), List.mem_of_getElem? (i := 501) (by decide +kernel), List.mem_of_getElem? (i := 502) (by decide +kernel)⟩
theorem lw_p7 : lw_okq (⟨"PageLayouter$Columns", "giveRows", "(LPageLayouter$Box;)V"⟩, 4) := ⟨⟨by decide +kernel, by decide +kernel⟩, List.mem_of_getElem? (i := 139) (by decide +kernel), List.mem_of_getElem? (i := 505) (by decide +kernel), List.mem_of_getElem? (i := 506) (by decide +kernel)⟩
theorem lw_p8 : lw_okq (⟨"PageLayouter", "giveHeights", "(I)V"⟩, 4) := ⟨⟨by decide +kernel, by decide +kernel⟩, List.mem_of_getElem? (i := 20) (by decide +kernel), List.mem_of_getElem? (i := 520) (by decide +kernel), List.mem_of_getElem? (i := 521) (by decide +kernel)⟩
theorem lw_p9 : lw_okq (⟨"PageLayouter", "givePlaces", "()V"⟩, 4) := ⟨⟨by decide +kernel, by decide +kernel⟩, List.mem_of_getElem? (i := 20) (by decide +kernel), List.mem_of_getElem? (i := 565) (by decide +kernel), List.mem_of_getElem? (i := 566) (by decide +kernel)⟩
theorem lw_p10 : lw_okq (⟨"PageLayouterModel", "begin", "(I)V"⟩, 26) := ⟨⟨by decide +kernel, by decide +kernel⟩, List.mem_of_getElem? (i := 649) (by decide +kernel), List.mem_of_getElem? (i := 655) (by decide +kernel), List.mem_of_getElem? (i := 656) (by decide +kernel)⟩
theorem lw_p11 : lw_okq (⟨"PageLayouterModel", "isBox", "(I)Z"⟩, 26) := ⟨⟨by decide +kernel, by decide +kernel⟩, List.mem_of_getElem? (i := 649) (by decide +kernel), List.mem_of_getElem? (i := 755) (by decide +kernel), List.mem_of_getElem? (i := 756) (by decide +kernel)⟩
theorem lw_p12 : lw_okq (⟨"PageLayouterModel", "findCores", "()V"⟩, 26) := ⟨⟨by decide +kernel, by decide +kernel⟩, List.mem_of_getElem? (i := 649) (by decide +kernel), List.mem_of_getElem? (i := 772) (by decide +kernel), List.mem_of_getElem? (i := 773) (by decide +kernel)⟩
theorem lw_p13 : lw_okq (⟨"PageLayouterModel", "findRoles", "()V"⟩, 26) := ⟨⟨by decide +kernel, by decide +kernel⟩, List.mem_of_getElem? (i := 649) (by decide +kernel), List.mem_of_getElem? (i := 776) (by decide +kernel), List.mem_of_getElem? (i := 777) (by decide +kernel)⟩
theorem lw_p14 : lw_okq (⟨"PageLayouterModel", "flows", "(II)Z"⟩, 26) := ⟨⟨by decide +kernel, by decide +kernel⟩, List.mem_of_getElem? (i := 649) (by decide +kernel), List.mem_of_getElem? (i := 780) (by decide +kernel), List.mem_of_getElem? (i := 781) (by decide +kernel)⟩
theorem lw_p15 : lw_okq (⟨"PageLayouterModel", "hasFlow", "(I)Z"⟩, 26) := ⟨⟨by decide +kernel, by decide +kernel⟩, List.mem_of_getElem? (i := 649) (by decide +kernel), List.mem_of_getElem? (i := 784) (by decide +kernel), List.mem_of_getElem? (i := 785) (by decide +kernel)⟩
def lw_privs_1 : List (MethodName × Nat) := [(⟨"PageLayouter", "exists", "(I)Z"⟩, 4), (⟨"java/lang/Throwable", "fillInStackTrace", "(I)Ljava/lang/Throwable;"⟩, 6), (⟨"PageLayouter", "findRoles", "()V"⟩, 4), (⟨"PageLayouter", "findCores", "()V"⟩, 4), (⟨"PageLayouter$Columns", "measureRow", "(LPageLayouter$Box;I)V"⟩, 4), (⟨"PageLayouter", "giveWidths", "(I)V"⟩, 4), (⟨"PageLayouter$Columns", "widen", "(LPageLayouter$Box;II)V"⟩, 4), (⟨"PageLayouter$Columns", "giveRows", "(LPageLayouter$Box;)V"⟩, 4), (⟨"PageLayouter", "giveHeights", "(I)V"⟩, 4), (⟨"PageLayouter", "givePlaces", "()V"⟩, 4), (⟨"PageLayouterModel", "begin", "(I)V"⟩, 26), (⟨"PageLayouterModel", "isBox", "(I)Z"⟩, 26), (⟨"PageLayouterModel", "findCores", "()V"⟩, 26), (⟨"PageLayouterModel", "findRoles", "()V"⟩, 26), (⟨"PageLayouterModel", "flows", "(II)Z"⟩, 26), (⟨"PageLayouterModel", "hasFlow", "(I)Z"⟩, 26)]
theorem lw_r1 : ∀ q ∈ lw_privs_1, lw_okq q := List.forall_mem_cons.mpr ⟨lw_p0, List.forall_mem_cons.mpr ⟨lw_p1, List.forall_mem_cons.mpr ⟨lw_p2, List.forall_mem_cons.mpr ⟨lw_p3, List.forall_mem_cons.mpr ⟨lw_p4, List.forall_mem_cons.mpr ⟨lw_p5, List.forall_mem_cons.mpr ⟨lw_p6, List.forall_mem_cons.mpr ⟨lw_p7, List.forall_mem_cons.mpr ⟨lw_p8, List.forall_mem_cons.mpr ⟨lw_p9, List.forall_mem_cons.mpr ⟨lw_p10, List.forall_mem_cons.mpr ⟨lw_p11, List.forall_mem_cons.mpr ⟨lw_p12, List.forall_mem_cons.mpr ⟨lw_p13, List.forall_mem_cons.mpr ⟨lw_p14, List.forall_mem_cons.mpr ⟨lw_p15, fun _ h => absurd h List.not_mem_nil⟩⟩⟩⟩⟩⟩⟩⟩⟩⟩⟩⟩⟩⟩⟩⟩
theorem lw_p16 : lw_okq (⟨"PageLayouterModel", "findColumns", "(I)V"⟩, 26) := ⟨⟨by decide +kernel, by decide +kernel⟩, List.mem_of_getElem? (i := 649) (by decide +kernel), List.mem_of_getElem? (i := 788) (by decide +kernel), List.mem_of_getElem? (i := 789) (by decide +kernel)⟩
theorem lw_p17 : lw_okq (⟨"PageLayouterModel", "leastOf", "(I)I"⟩, 26) := ⟨⟨by decide +kernel, by decide +kernel⟩, List.mem_of_getElem? (i := 649) (by decide +kernel), List.mem_of_getElem? (i := 792) (by decide +kernel), List.mem_of_getElem? (i := 793) (by decide +kernel)⟩
theorem lw_p18 : lw_okq (⟨"PageLayouterModel", "widthOf", "(I)I"⟩, 26) := ⟨⟨by decide +kernel, by decide +kernel⟩, List.mem_of_getElem? (i := 649) (by decide +kernel), List.mem_of_getElem? (i := 796) (by decide +kernel), List.mem_of_getElem? (i := 797) (by decide +kernel)⟩
theorem lw_p19 : lw_okq (⟨"PageLayouterModel", "isSize", "(I)Z"⟩, 26) := ⟨⟨by decide +kernel, by decide +kernel⟩, List.mem_of_getElem? (i := 649) (by decide +kernel), List.mem_of_getElem? (i := 800) (by decide +kernel), List.mem_of_getElem? (i := 801) (by decide +kernel)⟩
theorem lw_p20 : lw_okq (⟨"PageLayouterModel", "around", "(I)I"⟩, 26) := ⟨⟨by decide +kernel, by decide +kernel⟩, List.mem_of_getElem? (i := 649) (by decide +kernel), List.mem_of_getElem? (i := 804) (by decide +kernel), List.mem_of_getElem? (i := 805) (by decide +kernel)⟩
theorem lw_p21 : lw_okq (⟨"PageLayouterModel", "margin", "(I)I"⟩, 26) := ⟨⟨by decide +kernel, by decide +kernel⟩, List.mem_of_getElem? (i := 649) (by decide +kernel), List.mem_of_getElem? (i := 808) (by decide +kernel), List.mem_of_getElem? (i := 809) (by decide +kernel)⟩
theorem lw_p22 : lw_okq (⟨"PageLayouterModel", "padding", "(I)I"⟩, 26) := ⟨⟨by decide +kernel, by decide +kernel⟩, List.mem_of_getElem? (i := 649) (by decide +kernel), List.mem_of_getElem? (i := 812) (by decide +kernel), List.mem_of_getElem? (i := 813) (by decide +kernel)⟩
theorem lw_p23 : lw_okq (⟨"PageLayouterModel", "mostOf", "(I)I"⟩, 26) := ⟨⟨by decide +kernel, by decide +kernel⟩, List.mem_of_getElem? (i := 649) (by decide +kernel), List.mem_of_getElem? (i := 816) (by decide +kernel), List.mem_of_getElem? (i := 817) (by decide +kernel)⟩
theorem lw_p24 : lw_okq (⟨"PageLayouterModel", "findWidths", "(I)V"⟩, 26) := ⟨⟨by decide +kernel, by decide +kernel⟩, List.mem_of_getElem? (i := 649) (by decide +kernel), List.mem_of_getElem? (i := 828) (by decide +kernel), List.mem_of_getElem? (i := 829) (by decide +kernel)⟩
theorem lw_p25 : lw_okq (⟨"PageLayouterModel", "plainWidth", "(II)I"⟩, 26) := ⟨⟨by decide +kernel, by decide +kernel⟩, List.mem_of_getElem? (i := 649) (by decide +kernel), List.mem_of_getElem? (i := 832) (by decide +kernel), List.mem_of_getElem? (i := 833) (by decide +kernel)⟩
theorem lw_p26 : lw_okq (⟨"PageLayouterModel", "allColumns", "(I)I"⟩, 26) := ⟨⟨by decide +kernel, by decide +kernel⟩, List.mem_of_getElem? (i := 649) (by decide +kernel), List.mem_of_getElem? (i := 839) (by decide +kernel), List.mem_of_getElem? (i := 840) (by decide +kernel)⟩
theorem lw_p27 : lw_okq (⟨"PageLayouterModel", "spreadFlex", "(I)V"⟩, 26) := ⟨⟨by decide +kernel, by decide +kernel⟩, List.mem_of_getElem? (i := 649) (by decide +kernel), List.mem_of_getElem? (i := 843) (by decide +kernel), List.mem_of_getElem? (i := 844) (by decide +kernel)⟩
theorem lw_p28 : lw_okq (⟨"PageLayouterModel", "basis", "(II)I"⟩, 26) := ⟨⟨by decide +kernel, by decide +kernel⟩, List.mem_of_getElem? (i := 649) (by decide +kernel), List.mem_of_getElem? (i := 847) (by decide +kernel), List.mem_of_getElem? (i := 848) (by decide +kernel)⟩
theorem lw_p29 : lw_okq (⟨"PageLayouterModel", "leftOf", "(I)J"⟩, 26) := ⟨⟨by decide +kernel, by decide +kernel⟩, List.mem_of_getElem? (i := 649) (by decide +kernel), List.mem_of_getElem? (i := 851) (by decide +kernel), List.mem_of_getElem? (i := 852) (by decide +kernel)⟩
theorem lw_p30 : lw_okq (⟨"PageLayouterModel", "grow", "(IJ)V"⟩, 26) := ⟨⟨by decide +kernel, by decide +kernel⟩, List.mem_of_getElem? (i := 649) (by decide +kernel), List.mem_of_getElem? (i := 855) (by decide +kernel), List.mem_of_getElem? (i := 856) (by decide +kernel)⟩
theorem lw_p31 : lw_okq (⟨"PageLayouterModel", "shrinkOnce", "(I)Z"⟩, 26) := ⟨⟨by decide +kernel, by decide +kernel⟩, List.mem_of_getElem? (i := 649) (by decide +kernel), List.mem_of_getElem? (i := 859) (by decide +kernel), List.mem_of_getElem? (i := 860) (by decide +kernel)⟩
def lw_privs_2 : List (MethodName × Nat) := [(⟨"PageLayouterModel", "findColumns", "(I)V"⟩, 26), (⟨"PageLayouterModel", "leastOf", "(I)I"⟩, 26), (⟨"PageLayouterModel", "widthOf", "(I)I"⟩, 26), (⟨"PageLayouterModel", "isSize", "(I)Z"⟩, 26), (⟨"PageLayouterModel", "around", "(I)I"⟩, 26), (⟨"PageLayouterModel", "margin", "(I)I"⟩, 26), (⟨"PageLayouterModel", "padding", "(I)I"⟩, 26), (⟨"PageLayouterModel", "mostOf", "(I)I"⟩, 26), (⟨"PageLayouterModel", "findWidths", "(I)V"⟩, 26), (⟨"PageLayouterModel", "plainWidth", "(II)I"⟩, 26), (⟨"PageLayouterModel", "allColumns", "(I)I"⟩, 26), (⟨"PageLayouterModel", "spreadFlex", "(I)V"⟩, 26), (⟨"PageLayouterModel", "basis", "(II)I"⟩, 26), (⟨"PageLayouterModel", "leftOf", "(I)J"⟩, 26), (⟨"PageLayouterModel", "grow", "(IJ)V"⟩, 26), (⟨"PageLayouterModel", "shrinkOnce", "(I)Z"⟩, 26)]
theorem lw_r2 : ∀ q ∈ lw_privs_2, lw_okq q := List.forall_mem_cons.mpr ⟨lw_p16, List.forall_mem_cons.mpr ⟨lw_p17, List.forall_mem_cons.mpr ⟨lw_p18, List.forall_mem_cons.mpr ⟨lw_p19, List.forall_mem_cons.mpr ⟨lw_p20, List.forall_mem_cons.mpr ⟨lw_p21, List.forall_mem_cons.mpr ⟨lw_p22, List.forall_mem_cons.mpr ⟨lw_p23, List.forall_mem_cons.mpr ⟨lw_p24, List.forall_mem_cons.mpr ⟨lw_p25, List.forall_mem_cons.mpr ⟨lw_p26, List.forall_mem_cons.mpr ⟨lw_p27, List.forall_mem_cons.mpr ⟨lw_p28, List.forall_mem_cons.mpr ⟨lw_p29, List.forall_mem_cons.mpr ⟨lw_p30, List.forall_mem_cons.mpr ⟨lw_p31, fun _ h => absurd h List.not_mem_nil⟩⟩⟩⟩⟩⟩⟩⟩⟩⟩⟩⟩⟩⟩⟩⟩
theorem lw_p32 : lw_okq (⟨"PageLayouterModel", "weight", "(I)J"⟩, 26) := ⟨⟨by decide +kernel, by decide +kernel⟩, List.mem_of_getElem? (i := 649) (by decide +kernel), List.mem_of_getElem? (i := 863) (by decide +kernel), List.mem_of_getElem? (i := 864) (by decide +kernel)⟩
theorem lw_p33 : lw_okq (⟨"PageLayouterModel", "spreadTable", "(I)V"⟩, 26) := ⟨⟨by decide +kernel, by decide +kernel⟩, List.mem_of_getElem? (i := 649) (by decide +kernel), List.mem_of_getElem? (i := 867) (by decide +kernel), List.mem_of_getElem? (i := 868) (by decide +kernel)⟩
theorem lw_p34 : lw_okq (⟨"PageLayouterModel", "findFixed", "(I)V"⟩, 26) := ⟨⟨by decide +kernel, by decide +kernel⟩, List.mem_of_getElem? (i := 649) (by decide +kernel), List.mem_of_getElem? (i := 871) (by decide +kernel), List.mem_of_getElem? (i := 872) (by decide +kernel)⟩
theorem lw_p35 : lw_okq (⟨"PageLayouterModel", "heightOf", "(I)I"⟩, 26) := ⟨⟨by decide +kernel, by decide +kernel⟩, List.mem_of_getElem? (i := 649) (by decide +kernel), List.mem_of_getElem? (i := 875) (by decide +kernel), List.mem_of_getElem? (i := 876) (by decide +kernel)⟩
theorem lw_p36 : lw_okq (⟨"PageLayouterModel", "findHeights", "()V"⟩, 26) := ⟨⟨by decide +kernel, by decide +kernel⟩, List.mem_of_getElem? (i := 649) (by decide +kernel), List.mem_of_getElem? (i := 879) (by decide +kernel), List.mem_of_getElem? (i := 880) (by decide +kernel)⟩
theorem lw_p37 : lw_okq (⟨"PageLayouterModel", "byChildren", "(I)I"⟩, 26) := ⟨⟨by decide +kernel, by decide +kernel⟩, List.mem_of_getElem? (i := 649) (by decide +kernel), List.mem_of_getElem? (i := 883) (by decide +kernel), List.mem_of_getElem? (i := 884) (by decide +kernel)⟩
theorem lw_p38 : lw_okq (⟨"PageLayouterModel", "stand", "(I)I"⟩, 26) := ⟨⟨by decide +kernel, by decide +kernel⟩, List.mem_of_getElem? (i := 649) (by decide +kernel), List.mem_of_getElem? (i := 887) (by decide +kernel), List.mem_of_getElem? (i := 888) (by decide +kernel)⟩
theorem lw_p39 : lw_okq (⟨"PageLayouterModel", "lines", "(I)I"⟩, 26) := ⟨⟨by decide +kernel, by decide +kernel⟩, List.mem_of_getElem? (i := 649) (by decide +kernel), List.mem_of_getElem? (i := 891) (by decide +kernel), List.mem_of_getElem? (i := 892) (by decide +kernel)⟩
theorem lw_p40 : lw_okq (⟨"PageLayouterModel", "findPlaces", "()V"⟩, 26) := ⟨⟨by decide +kernel, by decide +kernel⟩, List.mem_of_getElem? (i := 649) (by decide +kernel), List.mem_of_getElem? (i := 895) (by decide +kernel), List.mem_of_getElem? (i := 896) (by decide +kernel)⟩
theorem lw_p41 : lw_okq (⟨"PageLayouterModel", "findRanks", "()V"⟩, 26) := ⟨⟨by decide +kernel, by decide +kernel⟩, List.mem_of_getElem? (i := 649) (by decide +kernel), List.mem_of_getElem? (i := 911) (by decide +kernel), List.mem_of_getElem? (i := 912) (by decide +kernel)⟩
theorem lw_p42 : lw_okq (⟨"PageLayouterModel", "has", "(III)Z"⟩, 26) := ⟨⟨by decide +kernel, by decide +kernel⟩, List.mem_of_getElem? (i := 649) (by decide +kernel), List.mem_of_getElem? (i := 915) (by decide +kernel), List.mem_of_getElem? (i := 916) (by decide +kernel)⟩
def lw_privs_3 : List (MethodName × Nat) := [(⟨"PageLayouterModel", "weight", "(I)J"⟩, 26), (⟨"PageLayouterModel", "spreadTable", "(I)V"⟩, 26), (⟨"PageLayouterModel", "findFixed", "(I)V"⟩, 26), (⟨"PageLayouterModel", "heightOf", "(I)I"⟩, 26), (⟨"PageLayouterModel", "findHeights", "()V"⟩, 26), (⟨"PageLayouterModel", "byChildren", "(I)I"⟩, 26), (⟨"PageLayouterModel", "stand", "(I)I"⟩, 26), (⟨"PageLayouterModel", "lines", "(I)I"⟩, 26), (⟨"PageLayouterModel", "findPlaces", "()V"⟩, 26), (⟨"PageLayouterModel", "findRanks", "()V"⟩, 26), (⟨"PageLayouterModel", "has", "(III)Z"⟩, 26)]
theorem lw_r3 : ∀ q ∈ lw_privs_3, lw_okq q := List.forall_mem_cons.mpr ⟨lw_p32, List.forall_mem_cons.mpr ⟨lw_p33, List.forall_mem_cons.mpr ⟨lw_p34, List.forall_mem_cons.mpr ⟨lw_p35, List.forall_mem_cons.mpr ⟨lw_p36, List.forall_mem_cons.mpr ⟨lw_p37, List.forall_mem_cons.mpr ⟨lw_p38, List.forall_mem_cons.mpr ⟨lw_p39, List.forall_mem_cons.mpr ⟨lw_p40, List.forall_mem_cons.mpr ⟨lw_p41, List.forall_mem_cons.mpr ⟨lw_p42, fun _ h => absurd h List.not_mem_nil⟩⟩⟩⟩⟩⟩⟩⟩⟩⟩⟩
def lw_privs : List (MethodName × Nat) := lw_privs_1 ++ (lw_privs_2 ++ (lw_privs_3))
def lw_tbl : List Cond := k2_sels lw_privs ++ tables_1
theorem lw_privs_ok : ∀ q ∈ lw_privs, lw_okq q := by
  show ∀ q ∈ lw_privs_1 ++ (lw_privs_2 ++ (lw_privs_3)), lw_okq q
  exact List.forall_mem_append.mpr ⟨lw_r1, List.forall_mem_append.mpr ⟨lw_r2, lw_r3⟩⟩
end
section
/-! 001 The words of the tables that the rows stand on -/
def pl_T : List Cond := lw_tbl.filter goodWord
theorem pl_good : GoodIn pl_T pl_T := fun w hw => ⟨hw, good_of_word (List.mem_filter.mp hw).2⟩
theorem pl_mem {w : Cond} (i : Nat) (h : lw_tbl[i]? = some w) (hg : goodWord w = true) : w ∈ pl_T := List.mem_filter.mpr ⟨List.mem_of_getElem? h, hg⟩
def pl_isNest : Cond → Bool
  | .fieldLinkNest .. => true
  | .methodLinkNest .. => true
  | _ => false
theorem pl_nest_moved {w : Cond} (hn : pl_isNest w = true) {s U : State} (hW : s.WarmedH U.vm) (hz : va_Nw w s) : va_Nw w U := by
  cases w with
  | fieldLinkNest a i b n d h => exact va_Nw.warmF hW hz
  | methodLinkNest a i x h => exact va_Nw.warmM hW hz
  | _ => simp [pl_isNest] at hn
theorem pl_nest_same {w : Cond} (hn : pl_isNest w = true) {u U : State} (hv : u.vm = U.vm) (hz : va_Nw w u) : va_Nw w U := by
  cases w with
  | fieldLinkNest a i b n d h => exact va_Nw.same rfl hv hz
  | methodLinkNest a i x h => exact va_Nw.same rfl hv hz
  | _ => simp [pl_isNest] at hn
def pl_N : List Cond := [(Jvm.Cond.fieldLinkNest "PageLayouter$Box" (25 : Nat) "PageLayouter" "FIRST_VALUES" "[I" "PageLayouter"), (Jvm.Cond.methodLinkNest "PageLayouter$Box" (61 : Nat) ({ cls := "PageLayouter", name := "isSize", desc := "(I)Z" } : Jvm.MethodName) "PageLayouter"), (Jvm.Cond.methodLinkNest "PageLayouter$Widths" (42 : Nat) ({ cls := "PageLayouter", name := "isSize", desc := "(I)Z" } : Jvm.MethodName) "PageLayouter"), (Jvm.Cond.methodLinkNest "PageLayouter$Widths" (46 : Nat) ({ cls := "PageLayouter", name := "isPercent", desc := "(I)Z" } : Jvm.MethodName) "PageLayouter"), (Jvm.Cond.methodLinkNest "PageLayouter$Widths" (49 : Nat) ({ cls := "PageLayouter", name := "percentOf", desc := "(II)I" } : Jvm.MethodName) "PageLayouter"), (Jvm.Cond.methodLinkNest "PageLayouter$Flex" (36 : Nat) ({ cls := "PageLayouter", name := "isPercent", desc := "(I)Z" } : Jvm.MethodName) "PageLayouter"), (Jvm.Cond.methodLinkNest "PageLayouter$Flex" (44 : Nat) ({ cls := "PageLayouter", name := "percentOf", desc := "(II)I" } : Jvm.MethodName) "PageLayouter"), (Jvm.Cond.methodLinkNest "PageLayouter$Heights" (23 : Nat) ({ cls := "PageLayouter", name := "isSize", desc := "(I)Z" } : Jvm.MethodName) "PageLayouter"), (Jvm.Cond.methodLinkNest "PageLayouter$Heights" (27 : Nat) ({ cls := "PageLayouter", name := "isPercent", desc := "(I)Z" } : Jvm.MethodName) "PageLayouter"), (Jvm.Cond.methodLinkNest "PageLayouter$Heights" (30 : Nat) ({ cls := "PageLayouter", name := "percentOf", desc := "(II)I" } : Jvm.MethodName) "PageLayouter")]
theorem pl_N_nest : ∀ w ∈ pl_N, pl_isNest w = true := by decide
end
section
/-! 002 Pasted from claim/NAMES.whole (starting text): exceptions that leave a method, and their catching -/
/-! ===== BEGIN exceptions that leave a method, and their catching by the caller (launches without stack traces) ===== -/
section VXA
/-! The laws vx_back, vx_callV, vx_callS, vx_callSW, vx_throw0, vx_throwS follow proofs of the library, with one case more: JvmDerived/Free/Laws.lean (Back.of_free), Shelf42/LK1.lean (callV, callS), Shelf/KitTraced.lean (throwNew0V, throwNewS). -/
/-- where a method has thrown q: the class by its name, the cell, what was written, the world -/
def vx_T (XC : String → State → State → Prop) (st : State) (q : Addr) (t : State) (mc ms : Nat) (free : Addr → Prop) : Prop :=
  ∃ (E : String) (ce : Cell) (L : List Loc), XC E st t ∧ t.heap[q]? = some ce ∧ ce.vm = .none ∧ st.vm.findClass E = some ce.cls ∧ st.WarmedH t.vm ∧ st.sameButNew ({ t with vm := st.vm } : State) L mc ms ∧ ∀ z ∈ L, free z.base
def vx_Q (Qc : Array Value → State → Outcome → State → Prop) (XC : String → State → State → Prop) (mc ms : Nat) (free : Addr → Prop) : Array Value → State → Outcome → State → Prop := fun a st o t =>
  (Qc a st o t ∧ ∃ L, FrameEnd st o t L mc ms ∧ ∀ q ∈ L, free q.base) ∨ ∃ q, o = .threw q ∧ vx_T XC st q t mc ms free
/-- a callee that returns or throws -/
def vx_Met (l : Launch) (y : MethodName) (ws : List Cond) (rm : Room) (Pc : Array Value → State → Prop) (Qc : Array Value → State → Outcome → State → Prop) (XC : String → State → State → Prop) (mc ms : Nat) (free : Addr → Prop) : Prop :=
  MetFree l y (headSpec ws rm) Pc (fun _ _ _ _ _ => True) (vx_Q Qc XC mc ms free)
def vx_Post (XC : String → State → State → Prop) (mc ms : Nat) (free : Addr → Prop) : Pt → Array Value → Addr → Pt → Prop := fun A a q B =>
  ∃ (g : JFrame) (mk : MethodId) (t : State) (L : List Loc) (E : String) (ce : Cell), B.U.heap = t.heap ∧ B.U.vm = t.vm ∧ XC E (A.U.calling g mk a) t ∧ t.heap[q]? = some ce ∧ ce.vm = .none ∧ A.U.vm.findClass E = some ce.cls ∧ B.locs = A.locs ++ L ∧ (∀ z ∈ L, free z.base) ∧ B.cells = A.cells + mc ∧ B.slots = A.slots + ms
def vx_Back (l : Launch) (R : Room) (p : Program) (e : Env) (below : List Frame) (s : State) (sargs : Array Value) (y : MethodName) (len W9 : Nat)
    (Pre : Pt → Array Value → Prop) (Post : Pt → Array Value → Option Value → Pt → Prop) (PostX : Pt → Array Value → Addr → Pt → Prop) : Prop :=
  ∀ (m : MethodId) (meth : Method) (c : Code) (A : Pt) (g : JFrame) (ig : Instr) (mk : MethodId) (a : Array Value),
    Stand p l e R s m sargs below meth c A.U A.locs A.cells A.slots → g.method = m → g.locals.size = c.maxLocals → decode c.code g.pc = .ok (ig, len) →
    2 * g.monitorRoom + (g.stack.map fun v => v.category).sum ≤ W9 → A.U.methodNamed? y = some mk → Pre A a →
    (∃ (v : Option Value) (B : Pt), Stand p l e R s m sargs below meth c B.U B.locs B.cells B.slots ∧ Post A a v B ∧
      Steps p.tables e below (doInvoke e (A.U.setTop g) [] mk a).1 (B.U.setTop { g with pc := g.pc + len, stack := v.toList ++ g.stack })) ∨
    (∃ (q : Addr) (B : Pt), Stand p l e R s m sargs below meth c B.U B.locs B.cells B.slots ∧ PostX A a q B ∧
      Steps p.tables e below (doInvoke e (A.U.setTop g) [] mk a).1 ((B.U.setTop g).pushFrame (.throwing q)))
section Payer
variable {l : Launch} {R : Room} {p : Program} {e : Env} {below : List Frame} {s : State} {sargs : Array Value} {y : MethodName} {len W9 : Nat}
theorem vx_back {ws : List Cond} {rm : Room} {Pc : Array Value → State → Prop} {Qc : Array Value → State → Outcome → State → Prop} {XC : String → State → State → Prop} {mc ms : Nat} {free : Addr → Prop} {bytes : ByteArray} {maxL : Nat} {ret : Option FieldType}
    (hM : vx_Met l y ws rm Pc Qc XC mc ms free) (hblind : FrameBlind Pc) (hrc : rm.cells = mc) (hrs : rm.slots = ms)
    (hframes : rm.frames + 1 ≤ R.frames) (hlocals : W9 + (maxL + 11) + rm.locals ≤ R.locals)
    (hws : ∀ w ∈ ws, ∀ a' U, s.WarmedH U.vm → w.before a' U = true) (hcode : Cond.code y bytes maxL ret ∈ ws) (hinit : ∀ a' U, s.WarmedH U.vm → (Cond.initialized y.cls).before a' U = true) :
    vx_Back l R p e below s sargs y len W9 (PreOf R mc ms Pc) (PostOf Qc mc ms free) (vx_Post XC mc ms free) := by
  intro m meth c A g ig mk a X hg hsize hdg hW hn hp
  have h1 : (headSpec ws rm).pre.before a A.U = true := atoms_intro fun w hw => hws w hw _ _ X.warmed
  have h2 : (Cond.code y bytes maxL ret).before a A.U = true := hws _ hcode _ _ X.warmed
  have h3 : (Cond.initialized y.cls).before a A.U = true := hinit _ _ X.warmed
  have h4 : A.cells + (headSpec ws rm).room.cells ≤ R.cells := by rw [show (headSpec ws rm).room.cells = mc from hrc]; exact hp.1
  have h5 : A.slots + (headSpec ws rm).room.slots ≤ R.slots := by rw [show (headSpec ws rm).room.slots = ms from hrs]; exact hp.2.1
  have hPc : Pc a (A.U.calling g mk a) := hblind _ _ _ _ hp.2.2
  obtain ⟨U, Ls, c0, s0⟩ := A
  dsimp only [Pt.U, Pt.locs, Pt.cells, Pt.slots] at h1 h2 h3 h4 h5 X hn hPc ⊢
  obtain ⟨methY, cY, hmY, hcY, -, hlY, -, -, -, -⟩ := Cond.code_spec hn h2
  obtain ⟨kY, hkY, -⟩ := className_of_methodNamed hn
  have hinitY : kY.init = .initialized := Cond.initialized_spec (findClass_of_methodNamed hn) hkY h3
  have h : At U g.method c below := by rw [hg]; exact X.here
  have hlocals9 : W9 + (maxL + 11) + (headSpec ws rm).room.locals ≤ R.locals := hlocals
  have happ : (headSpec ws rm).appliesLoose y e.platform (U.calling g mk a) = true :=
    Spec.appliesLoose_calling (g := g) h hdg hn hkY hinitY
      (X.room_calling (g := g) (R' := (headSpec ws rm).room) hsize hmY hcY hframes (by rw [hlY]; omega) h4 h5) h1
  obtain ⟨mid, hmid⟩ := h.above
  have hfr : (U.setTop g).frames = (.java g :: mid) ++ below := by rw [State.frames_setTop' g h.top, hmid]; rfl
  obtain ⟨o, s₂, hsteps, -, hend, hq⟩ := Steps.callFree hM p X.admits X.cas X.clock (acts := []) hfr happ hPc trivial
  have hq' : vx_Q Qc XC mc ms free a (U.calling g mk a) o s₂ := hq
  rw [State.frames_setTop' g h.top] at hend
  obtain ⟨g₀, hg0⟩ := Option.isSome_iff_exists.mp h.top
  obtain ⟨r, hr⟩ := State.topJava?_eq_some.mp hg0
  have hr' : (({ U with heap := s₂.heap, slotsUsed := s₂.slotsUsed } : State).setVm s₂.vm).frames = .java g₀ :: r := hr
  rcases hq' with ⟨hqc, L, hfe, hL⟩ | ⟨q, rfl, E, ce, L, hx, hce, hcv, hcl, hW₂, hsm, hL⟩
  · obtain ⟨⟨v, rfl⟩, hW₂, e2, q2, q3, q4, q5, q6⟩ := id hfe
    have e3 : s₂ = ({ (U.calling g mk a).setFrames s₂.frames with heap := s₂.heap, slotsUsed := s₂.slotsUsed } : State).setVm s₂.vm := by
      have : s₂ = ({ s₂ with vm := (U.calling g mk a).vm } : State).setVm s₂.vm := rfl
      rw [e2] at this
      exact this
    obtain ⟨c₂, i₂, len₂, hc₂, hd₂, hf₂⟩ := hend
    have hW' : U.WarmedH s₂.vm := hW₂
    have hcc : c₂ = c := by
      have h1 : s₂.code? g.method = U.code? g.method := by
        rw [State.code?_eq, State.code?_eq, hW'.alike.method?]
      exact Option.some.inj (hc₂.symm.trans (h1.trans h.code))
    subst hcc
    have hlen : len₂ = len := by rw [hdg] at hd₂; cases hd₂; rfl
    subst hlen
    have hs₂ : s₂ = (({ U with heap := s₂.heap, slotsUsed := s₂.slotsUsed } : State).setVm s₂.vm).setTop { g with pc := g.pc + len₂, stack := v.toList ++ g.stack } := by
      refine e3.trans ?_
      rw [hf₂, State.calling_eq h.top, State.setFrames_setFrames, State.setTop_of_frames _ hr', hr]
      rfl
    have hsame : U.sameButNew ({ U with heap := s₂.heap, slotsUsed := s₂.slotsUsed } : State) L mc ms := by
      refine ⟨?_, q2, q3, q4, q5, q6⟩
      obtain ⟨t, ht, -⟩ := State.frames_cons hr
      show ({ U with heap := s₂.heap, slotsUsed := s₂.slotsUsed } : State) = { U.setFrames U.frames with heap := s₂.heap, slotsUsed := s₂.slotsUsed }
      rw [State.setFrames_self ht]
    subst hg
    refine Or.inl ⟨v, ⟨(({ U with heap := s₂.heap, slotsUsed := s₂.slotsUsed } : State).setVm s₂.vm), Ls ++ L, c0 + mc, s0 + ms⟩,
      ⟨X.admits, X.cas, X.clock, X.frames, X.room, X.hears, X.method, X.code, (X.here.setHeapUsed s₂.heap s₂.slotsUsed).setVm hW'.alike, X.tail, State.WarmedH.trans X.warmed hW', X.limits, X.bytes, X.same.trans (hsame.setVm s.vm)⟩,
      ⟨g, mk, s₂, L, rfl, rfl, hqc, rfl, hL, rfl, rfl⟩, ?_⟩
    show Steps p.tables e below _ ((({ U with heap := s₂.heap, slotsUsed := s₂.slotsUsed } : State).setVm s₂.vm).setTop { g with pc := g.pc + len₂, stack := v.toList ++ g.stack })
    rw [← hs₂]
    exact hsteps
  · obtain ⟨e2, q2, q3, q4, q5, q6⟩ := id hsm
    have e3 : s₂ = ({ (U.calling g mk a).setFrames s₂.frames with heap := s₂.heap, slotsUsed := s₂.slotsUsed } : State).setVm s₂.vm := by
      have : s₂ = ({ s₂ with vm := (U.calling g mk a).vm } : State).setVm s₂.vm := rfl
      rw [e2] at this
      exact this
    have hf₂ : s₂.frames = .throwing q :: .java g :: U.frames.tail := hend
    have hW' : U.WarmedH s₂.vm := hW₂
    have hs₂ : s₂ = ((({ U with heap := s₂.heap, slotsUsed := s₂.slotsUsed } : State).setVm s₂.vm).setTop g).pushFrame (.throwing q) := by
      refine e3.trans ?_
      rw [hf₂, State.calling_eq h.top, State.setFrames_setFrames, State.pushFrame, State.frames_setTop _ hr', State.setTop_of_frames _ hr', State.setFrames_setFrames, hr]
      rfl
    have hsame : U.sameButNew ({ U with heap := s₂.heap, slotsUsed := s₂.slotsUsed } : State) L mc ms := by
      refine ⟨?_, q2, q3, q4, q5, q6⟩
      obtain ⟨t, ht, -⟩ := State.frames_cons hr
      show ({ U with heap := s₂.heap, slotsUsed := s₂.slotsUsed } : State) = { U.setFrames U.frames with heap := s₂.heap, slotsUsed := s₂.slotsUsed }
      rw [State.setFrames_self ht]
    subst hg
    refine Or.inr ⟨q, ⟨(({ U with heap := s₂.heap, slotsUsed := s₂.slotsUsed } : State).setVm s₂.vm), Ls ++ L, c0 + mc, s0 + ms⟩,
      ⟨X.admits, X.cas, X.clock, X.frames, X.room, X.hears, X.method, X.code, (X.here.setHeapUsed s₂.heap s₂.slotsUsed).setVm hW'.alike, X.tail, State.WarmedH.trans X.warmed hW', X.limits, X.bytes, X.same.trans (hsame.setVm s.vm)⟩,
      ⟨g, mk, s₂, L, E, ce, rfl, rfl, hx, hce, hcv, hcl, rfl, hL, rfl, rfl⟩, ?_⟩
    show Steps p.tables e below _ (((({ U with heap := s₂.heap, slotsUsed := s₂.slotsUsed } : State).setVm s₂.vm).setTop g).pushFrame (.throwing q))
    rw [← hs₂]
    exact hsteps
end Payer
section Calls
variable {p : Program} {l : Launch} {e : Env} {R : Room} {s : State} {m : MethodId} {args : Array Value} {below : List Frame} {meth : Method} {c : Code} {T : State} {locs : List Loc} {cells slots : Nat}
theorem vx_callV (X : Stand p l e R s m args below meth c T locs cells slots) (hexec : p.tables.exec = Jvm.exec) {own C : String} {index : Nat} {y : MethodName} {bytes : ByteArray} {maxL : Nat} {ret : Option FieldType}
    (hown : s.vm.findClass own = some m.cls) (hlink : (Cond.methodLink own index y).before args s = true) (hinst : (Cond.instanceMethod y).before args s = true) (hsel : (Cond.selects C y y).before args s = true)
    (hcode : (Cond.code y bytes maxL ret).before args s = true) (hy : y.cls ≠ "java/lang/invoke/MethodHandle" ∧ y.cls ≠ "java/lang/invoke/VarHandle")
    {W9 : Nat} {Pre : Pt → Array Value → Prop} {Post : Pt → Array Value → Option Value → Pt → Prop} {PostX : Pt → Array Value → Addr → Pt → Prop} (hK : vx_Back l R p e below s args y 3 W9 Pre Post PostX)
    {b : Addr} {cellB : Cell} (hcell : T.heap[b]? = some cellB) (hobj : cellB.vm.isStatics = false) (hcls : s.vm.findClass C = some cellB.cls)
    {g : JFrame} (hg : g.method = m) (hsize : g.locals.size = c.maxLocals) {argsL rest : List Value} (hlen : ∀ sig, parseMethodDescriptor y.desc = some sig → argsL.length = sig.parameters.length)
    (hstack : g.stack = argsL.reverse ++ .ref b :: rest) (hW : 2 * g.monitorRoom + (rest.map fun v => v.category).sum ≤ W9) (hdg : decode c.code g.pc = .ok (.invokevirtual index, 3))
    (hpre : ∀ vm₁, s.WarmedH vm₁ → Pre ⟨T.setVm vm₁, locs, cells, slots⟩ (Value.ref b :: argsL).toArray) :
    (∃ (v : Option Value) (vm₁ : Vm) (B : Pt), s.WarmedH vm₁ ∧ Stand p l e R s m args below meth c B.U B.locs B.cells B.slots ∧ Post ⟨T.setVm vm₁, locs, cells, slots⟩ (Value.ref b :: argsL).toArray v B ∧
      ∀ target, Steps p.tables e below (B.U.setTop { g with pc := g.pc + 3, stack := v.toList ++ rest }) target → Steps p.tables e below (T.setTop g) target) ∨
    (∃ (q : Addr) (vm₁ : Vm) (B : Pt), s.WarmedH vm₁ ∧ Stand p l e R s m args below meth c B.U B.locs B.cells B.slots ∧ PostX ⟨T.setVm vm₁, locs, cells, slots⟩ (Value.ref b :: argsL).toArray q B ∧
      Steps p.tables e below (T.setTop g) ((B.U.setTop { g with stack := rest }).pushFrame (.throwing q))) := by
  obtain ⟨mk, methM, hnamed, hmethM, hstM, habM⟩ := Cond.instanceMethod_spec hinst
  obtain ⟨methM', cM, hmethM', -, -, -, -, -, -, hsigM⟩ := Cond.code_spec hnamed hcode
  cases hmethM.symm.trans hmethM'
  obtain ⟨c2, r2, m2, q1, q2, q3, q4, kP, hkP, hkPi⟩ := Cond.selects_spec hsel
  cases hcls.symm.trans q1
  cases (State.methodFound?_of_named hnamed hy).symm.trans q2
  cases hnamed.symm.trans q3
  have hselP : selectMethod e.platform s.vm cellB.cls mk = .method mk := by rw [Launch.admits_selectMethod X.admits]; exact q4
  obtain ⟨vm₁, X₁, hstep₁⟩ := X.invokevirtual hexec hown hlink hnamed hmethM hstM hkP hkPi hy (a := b) (cell := cellB) hcell
    (fun z h => by rw [h] at hobj; cases hobj) hselP hmethM habM hkP hkPi (g := g) hg (argsL := argsL) (rest := rest) (hlen _ hsigM) hstack hdg
  rcases hK m meth c ⟨T.setVm vm₁, locs, cells, slots⟩ { g with stack := rest } (.invokevirtual index) mk (Value.ref b :: argsL).toArray X₁ hg hsize hdg hW (X₁.named hnamed) (hpre vm₁ X₁.warmed) with ⟨v, B, X', hpost, hsteps⟩ | ⟨q, B, X', hpost, hsteps⟩
  · exact Or.inl ⟨v, vm₁, B, X₁.warmed, X', hpost, fun target h => hstep₁ _ fun acts => by rw [doInvoke_state]; exact hsteps.trans h⟩
  · exact Or.inr ⟨q, vm₁, B, X₁.warmed, X', hpost, hstep₁ _ fun acts => by rw [doInvoke_state]; exact hsteps⟩
theorem vx_callS (X : Stand p l e R s m args below meth c T locs cells slots) (hexec : p.tables.exec = Jvm.exec) {own : String} {index : Nat} {y : MethodName} {bytes : ByteArray} {maxL : Nat} {ret : Option FieldType}
    (hown : s.vm.findClass own = some m.cls) (hlink : (Cond.methodLink own index y).before args s = true) (hstat : (Cond.static y).before args s = true) (hinit : (Cond.initialized y.cls).before args s = true)
    (hcode : (Cond.code y bytes maxL ret).before args s = true) (hy : y.cls ≠ "java/lang/invoke/MethodHandle" ∧ y.cls ≠ "java/lang/invoke/VarHandle")
    {W9 : Nat} {Pre : Pt → Array Value → Prop} {Post : Pt → Array Value → Option Value → Pt → Prop} {PostX : Pt → Array Value → Addr → Pt → Prop} (hK : vx_Back l R p e below s args y 3 W9 Pre Post PostX)
    {g : JFrame} (hg : g.method = m) (hsize : g.locals.size = c.maxLocals) {argsL rest : List Value} (hlen : ∀ sig, parseMethodDescriptor y.desc = some sig → argsL.length = sig.parameters.length)
    (hstack : g.stack = argsL.reverse ++ rest) (hW : 2 * g.monitorRoom + (rest.map fun v => v.category).sum ≤ W9) (hdg : decode c.code g.pc = .ok (.invokestatic index, 3))
    (hpre : ∀ vm₁, s.WarmedH vm₁ → Pre ⟨T.setVm vm₁, locs, cells, slots⟩ argsL.toArray) :
    (∃ (v : Option Value) (vm₁ : Vm) (B : Pt), s.WarmedH vm₁ ∧ Stand p l e R s m args below meth c B.U B.locs B.cells B.slots ∧ Post ⟨T.setVm vm₁, locs, cells, slots⟩ argsL.toArray v B ∧
      ∀ target, Steps p.tables e below (B.U.setTop { g with pc := g.pc + 3, stack := v.toList ++ rest }) target → Steps p.tables e below (T.setTop g) target) ∨
    (∃ (q : Addr) (vm₁ : Vm) (B : Pt), s.WarmedH vm₁ ∧ Stand p l e R s m args below meth c B.U B.locs B.cells B.slots ∧ PostX ⟨T.setVm vm₁, locs, cells, slots⟩ argsL.toArray q B ∧
      Steps p.tables e below (T.setTop g) ((B.U.setTop { g with stack := rest }).pushFrame (.throwing q))) := by
  obtain ⟨mk, hnamed⟩ := Cond.code_named hcode
  obtain ⟨methM, cM, hmethM, -, -, -, -, -, -, hsigM⟩ := Cond.code_spec hnamed hcode
  have hstatic : methM.isStatic = true := Cond.static_spec hnamed hmethM hstat
  obtain ⟨kP, hkP, -⟩ := className_of_methodNamed hnamed
  have hinitP : kP.init = .initialized := Cond.initialized_spec (findClass_of_methodNamed hnamed) hkP hinit
  obtain ⟨vm₁, X₁, hstep₁⟩ := X.invokestatic hexec hown hlink hnamed hmethM hstatic hkP hinitP hy (g := g) hg (argsL := argsL) (rest := rest) (hlen _ hsigM) hstack hdg
  rcases hK m meth c ⟨T.setVm vm₁, locs, cells, slots⟩ { g with stack := rest } (.invokestatic index) mk argsL.toArray X₁ hg hsize hdg hW (X₁.named hnamed) (hpre vm₁ X₁.warmed) with ⟨v, B, X', hpost, hsteps⟩ | ⟨q, B, X', hpost, hsteps⟩
  · exact Or.inl ⟨v, vm₁, B, X₁.warmed, X', hpost, fun target h => hstep₁ _ fun acts => by rw [doInvoke_state]; exact hsteps.trans h⟩
  · exact Or.inr ⟨q, vm₁, B, X₁.warmed, X', hpost, hstep₁ _ fun acts => by rw [doInvoke_state]; exact hsteps⟩
end Calls
theorem vx_cls {s : State} {T : State} {vm₁ : Vm} {E : String} {k : ClassId} (hW : s.WarmedH vm₁) (h : (T.setVm vm₁).vm.findClass E = some k) : s.vm.findClass E = some k := by
  have h1 : vm₁.findClass E = some k := h
  rw [hW.alike.findClass] at h1
  exact h1
/-- the method's frame g, with q thrown over it -/
def vx_W (p : Program) (l : Launch) (e : Env) (R : Room) (s : State) (m : MethodId) (args : Array Value) (below : List Frame) (meth : Method) (c : Code) (H : Heap) (locs : List Loc) (cells slots : Nat) (Q : State → Prop) (g : JFrame) (q : Addr) : Prop :=
  ∀ T : State, T.heap = H → Stand p l e R s m args below meth c T locs cells slots → ∃ t, Steps p.tables e below ((T.setTop g).pushFrame (.throwing q)) t ∧ Q t
def vx_Run (p : Program) (l : Launch) (e : Env) (R : Room) (s : State) (m : MethodId) (args : Array Value) (below : List Frame) (meth : Method) (c : Code) (H : Heap) (locs : List Loc) (cells slots mc ms : Nat) (g : JFrame) (rest : List Value) (Qa : State → Outcome → State → Prop) (XC : String → State → State → Prop) (free : Addr → Prop) : Prop :=
  ∀ T : State, T.heap = H → Stand p l e R s m args below meth c T locs cells slots →
    (∃ (v : Option Value) (st₀ t T' : State) (L : List Loc), st₀.heap = H ∧ Stand p l e R s m args below meth c T' (locs ++ L) (cells + mc) (slots + ms) ∧ (∀ q ∈ L, free q.base) ∧ T'.heap = t.heap ∧ T'.vm = t.vm ∧ Qa st₀ (.returned v) t ∧
      Goes p e below T g T' { g with pc := g.pc + 3, stack := v.toList ++ rest }) ∨
    (∃ (q : Addr) (st₀ t T' : State) (L : List Loc) (E : String) (ce : Cell), st₀.heap = H ∧ Stand p l e R s m args below meth c T' (locs ++ L) (cells + mc) (slots + ms) ∧ (∀ z ∈ L, free z.base) ∧ T'.heap = t.heap ∧ T'.vm = t.vm ∧ XC E st₀ t ∧ t.heap[q]? = some ce ∧ ce.vm = .none ∧ s.vm.findClass E = some ce.cls ∧
      Steps p.tables e below (T.setTop g) ((T'.setTop { g with stack := rest }).pushFrame (.throwing q)))
def vx_X {S : Type} (px : S → Prop) (B : String → S → State → Prop) (A : Nat → Prop) : String → State → State → Prop := fun E st t => ∃ u : S, px u ∧ B E u t ∧ va_F A st t
section Runs
variable {p : Program} {l : Launch} {e : Env} {R : Room} {s : State} {m : MethodId} {args : Array Value} {below : List Frame} {meth : Method} {c : Code} {H : Heap} {locs : List Loc} {cells slots : Nat}
variable {y : MethodName} {bytes cc : ByteArray} {maxL nL mc ms n index : Nat} {ret : Option FieldType} {ws : List Cond} {rm : Room} {Pc : Array Value → State → Prop} {Qc : Array Value → State → Outcome → State → Prop} {XC : String → State → State → Prop} {free : Addr → Prop} {Ts : List Cond} {own C : String} {b : Addr} {As rest : List Value} {g : JFrame}
theorem vx_callBack (cb : CallB R s args own index y bytes maxL ret ws rm mc ms n) (hM : vx_Met l y ws rm Pc Qc XC mc ms free) (hbl : FrameBlind Pc) : vx_Back l R p e below s args y 3 8 (PreOf R mc ms Pc) (PostOf Qc mc ms free) (vx_Post XC mc ms free) := by
  obtain ⟨hrc, hrs, hfr, hlo, hws, hcw, -, hini, -⟩ := cb
  exact vx_back (bytes := bytes) (maxL := maxL) (ret := ret) hM hbl hrc hrs hfr hlo hws hcw (fun a' U hW => word_at hW (Or.inl (by first | rfl | simp [Cond.onTables, Cond.keeps, Cond.steady])) hini)
theorem vx_runV (S : CallFix p m c cc nL s args Ts own) (hM : vx_Met l y ws rm Pc Qc XC mc ms free) (cw : CallW R s args own C index y bytes maxL ret ws rm mc ms n) (hp : PreV s H C b Pc As)
    (hg : g.method = m) (hn : As.length = n) (hsize : g.locals.size = nL) (hstack : g.stack = As.reverse ++ .ref b :: rest) (hW : 2 * g.monitorRoom + (rest.map fun v => v.category).sum ≤ 8) (hdg : decode cc g.pc = .ok (.invokevirtual index, 3)) (hf : cells + mc ≤ R.cells ∧ slots + ms ≤ R.slots) :
    vx_Run p l e R s m args below meth c H locs cells slots mc ms g rest (Qc (Value.ref b :: As).toArray) XC free := by
  have hK : vx_Back l R p e below s args y 3 8 (PreOf R mc ms Pc) (PostOf Qc mc ms free) (vx_Post XC mc ms free) := vx_callBack cw.1 hM hp.1
  obtain ⟨⟨-, -, -, -, -, -, hcode, -, hy, hlen, hl⟩, hin, hse⟩ := cw
  obtain ⟨hx, hb, hml, ho, -⟩ := S
  obtain ⟨-, ⟨cellB, hcB, hoB, hclB⟩, hPc⟩ := hp
  intro T hT X
  rcases vx_callV X hx (C := C) (bytes := bytes) (maxL := maxL) (ret := ret) ho hl hin hse hcode hy hK (by rw [hT]; exact hcB) hoB hclB hg (hsize.trans hml.symm) (argsL := As) (rest := rest) (fun sig h => hn.trans (hlen sig h)) hstack hW (by rw [hb]; exact hdg)
    (fun vm₁ hW₁ => ⟨hf.1, hf.2, hPc (T.setVm vm₁) hT hW₁⟩) with ⟨v, vm₁, ⟨U', l2, c2, s2⟩, hW₁, X', ⟨g', mk, t, L, e1, e2, hq, h1, hL, h2, h3⟩, st⟩ | ⟨q, vm₁, ⟨U', l2, c2, s2⟩, hW₁, X', ⟨g', mk, t, L, E, ce, e1, e2, hq, hce, hcv, hcl, h1, hL, h2, h3⟩, st⟩
  · dsimp only [Pt.U, Pt.locs, Pt.cells, Pt.slots] at X' e1 e2 h1 h2 h3 st
    subst h1; subst h2; subst h3
    exact Or.inl ⟨v, (T.setVm vm₁).calling g' mk (Value.ref b :: As).toArray, t, U', L, hT, X', hL, e1, e2, hq, st⟩
  · dsimp only [Pt.U, Pt.locs, Pt.cells, Pt.slots] at X' e1 e2 h1 h2 h3 st hcl
    subst h1; subst h2; subst h3
    exact Or.inr ⟨q, (T.setVm vm₁).calling g' mk (Value.ref b :: As).toArray, t, U', L, E, ce, hT, X', hL, e1, e2, hq, hce, hcv, vx_cls hW₁ hcl, st⟩
theorem vx_runS (S : CallFix p m c cc nL s args Ts own) (hM : vx_Met l y ws rm Pc Qc XC mc ms free) (cw : CallB R s args own index y bytes maxL ret ws rm mc ms n ∧ (Cond.static y).before args s = true) (hp : PreS s H Pc As)
    (hg : g.method = m) (hn : As.length = n) (hsize : g.locals.size = nL) (hstack : g.stack = As.reverse ++ rest) (hW : 2 * g.monitorRoom + (rest.map fun v => v.category).sum ≤ 8) (hdg : decode cc g.pc = .ok (.invokestatic index, 3)) (hf : cells + mc ≤ R.cells ∧ slots + ms ≤ R.slots) :
    vx_Run p l e R s m args below meth c H locs cells slots mc ms g rest (Qc As.toArray) XC free := by
  have hK : vx_Back l R p e below s args y 3 8 (PreOf R mc ms Pc) (PostOf Qc mc ms free) (vx_Post XC mc ms free) := vx_callBack cw.1 hM hp.1
  obtain ⟨⟨-, -, -, -, -, -, hcode, hini, hy, hlen, hl⟩, hstt⟩ := cw
  obtain ⟨hx, hb, hml, ho, -⟩ := S
  intro T hT X
  rcases vx_callS X hx (bytes := bytes) (maxL := maxL) (ret := ret) ho hl hstt hini hcode hy hK hg (hsize.trans hml.symm) (argsL := As) (rest := rest) (fun sig h => hn.trans (hlen sig h)) hstack hW (by rw [hb]; exact hdg)
    (fun vm₁ hW₁ => ⟨hf.1, hf.2, hp.2 (T.setVm vm₁) hT hW₁⟩) with ⟨v, vm₁, ⟨U', l2, c2, s2⟩, hW₁, X', ⟨g', mk, t, L, e1, e2, hq, h1, hL, h2, h3⟩, st⟩ | ⟨q, vm₁, ⟨U', l2, c2, s2⟩, hW₁, X', ⟨g', mk, t, L, E, ce, e1, e2, hq, hce, hcv, hcl, h1, hL, h2, h3⟩, st⟩
  · dsimp only [Pt.U, Pt.locs, Pt.cells, Pt.slots] at X' e1 e2 h1 h2 h3 st
    subst h1; subst h2; subst h3
    exact Or.inl ⟨v, (T.setVm vm₁).calling g' mk As.toArray, t, U', L, hT, X', hL, e1, e2, hq, st⟩
  · dsimp only [Pt.U, Pt.locs, Pt.cells, Pt.slots] at X' e1 e2 h1 h2 h3 st hcl
    subst h1; subst h2; subst h3
    exact Or.inr ⟨q, (T.setVm vm₁).calling g' mk As.toArray, t, U', L, E, ce, hT, X', hL, e1, e2, hq, hce, hcv, vx_cls hW₁ hcl, st⟩
end Runs
section Rows
variable {p : Program} {l : Launch} {e : Env} {R : Room} {s : State} {m : MethodId} {args : Array Value} {below : List Frame} {meth : Method} {c : Code} {H : Heap} {locs : List Loc} {cells slots : Nat} {Q : State → Prop}
variable {mc ms : Nat} {free : Addr → Prop} {A0 A1 : Nat → Prop} {H0 : Heap} {a : Array Value} {pc : Nat} {ls : Array Slot} {st0 rest : List Value}
theorem vx_keep {st₀ t T' : State} {L : List Loc} (h0 : st₀.heap = H) (e1 : T'.heap = t.heap) (hS : va_S A0 H0 H locs) (hA : ∀ q, q < H.size → A1 q → A0 q) (hf : ∀ q, free q → A0 q) (hL : ∀ q ∈ L, free q.base) (hF : va_F A1 st₀ t) :
    H.size ≤ T'.heap.size ∧ (∀ q : Nat, q < H.size → ¬ A1 q → T'.heap[q]? = H[q]?) ∧ va_S A0 H0 T'.heap (locs ++ L) := by
  obtain ⟨hz, hk⟩ := hF
  rw [h0] at hz hk
  exact ⟨by rw [e1]; exact hz, fun q h1 h2 => by rw [e1]; exact hk q h1 h2,
    ⟨Nat.le_trans hS.1 (by rw [e1]; exact hz), fun q h1 h2 => by rw [e1, hk q (Nat.lt_of_lt_of_le h1 hS.1) (fun z => h2 (hA q (Nat.lt_of_lt_of_le h1 hS.1) z))]; exact hS.2.1 q h1 h2, fun q hq => by
      rcases List.mem_append.mp hq with h | h
      · exact hS.2.2 q h
      · exact hf _ (hL q h)⟩⟩
theorem vx_calli {S SX : Type} {post : Int32 → S → Prop} {px : SX → Prop} {B : S → State → Prop} {BX : String → SX → State → Prop} {AX : Nat → Prop} (hr : vx_Run p l e R s m args below meth c H locs cells slots mc ms (F0 m pc ls st0) rest (va_Qi post B A1 a) (vx_X px BX AX) free) (hS : va_S A0 H0 H locs) (hA : ∀ q, q < H.size → A1 q → A0 q) (hf : ∀ q, free q → A0 q) (hAX : ∀ q, q < H.size → AX q → A0 q)
    (kx : ∀ (E : String) (ce : Cell) (q9 : Addr) (u : SX) (t : State) (H1 : Heap) (locs1 : List Loc), t.heap = H1 → s.vm.Alike t.vm → px u → BX E u t → H.size ≤ H1.size → (∀ q : Nat, q < H.size → ¬ AX q → H1[q]? = H[q]?) → va_S A0 H0 H1 locs1 → H1[q9]? = some ce → ce.vm = .none → s.vm.findClass E = some ce.cls → vx_W p l e R s m args below meth c H1 locs1 (cells + mc) (slots + ms) Q (F0 m pc ls rest) q9)
    (kk : ∀ (r : Int32) (u : S) (t : State) (H1 : Heap) (locs1 : List Loc), t.heap = H1 → s.vm.Alike t.vm → post r u → B u t → H.size ≤ H1.size → (∀ q : Nat, q < H.size → ¬ A1 q → H1[q]? = H[q]?) → va_S A0 H0 H1 locs1 → W p l e R s m args below meth c H1 locs1 (cells + mc) (slots + ms) Q (F0 m (pc + 3) ls (.int r :: rest))) : W p l e R s m args below meth c H locs cells slots Q (F0 m pc ls st0) := by
  intro T hT X
  rcases hr T hT X with ⟨v, st₀, t, T', L, h0, X', hL, e1, e2, ⟨⟨r, u, hv, hp, hb⟩, hF⟩, st⟩ | ⟨q, st₀, t, T', L, E, ce, h0, X', hL, e1, e2, ⟨u, hp, hb, hF⟩, hce, hcv, hcl, st⟩
  · cases hv
    obtain ⟨k1, k2, k3⟩ := vx_keep h0 e1 hS hA hf hL hF
    obtain ⟨t2, a1, b1⟩ := kk r u t T'.heap (locs ++ L) e1.symm (by rw [← e2]; exact X'.warmed.alike) hp hb k1 k2 k3 T' rfl X'
    exact ⟨t2, st t2 a1, b1⟩
  · obtain ⟨k1, k2, k3⟩ := vx_keep h0 e1 hS hAX hf hL hF
    obtain ⟨t2, a1, b1⟩ := kx E ce q u t T'.heap (locs ++ L) e1.symm (by rw [← e2]; exact X'.warmed.alike) hp hb k1 k2 k3 (by rw [e1]; exact hce) hcv hcl T' rfl X'
    exact ⟨t2, st.trans a1, b1⟩
theorem vx_calll {S SX : Type} {post : Int64 → S → Prop} {px : SX → Prop} {B : S → State → Prop} {BX : String → SX → State → Prop} {AX : Nat → Prop} (hr : vx_Run p l e R s m args below meth c H locs cells slots mc ms (F0 m pc ls st0) rest (va_Ql post B A1 a) (vx_X px BX AX) free) (hS : va_S A0 H0 H locs) (hA : ∀ q, q < H.size → A1 q → A0 q) (hf : ∀ q, free q → A0 q) (hAX : ∀ q, q < H.size → AX q → A0 q)
    (kx : ∀ (E : String) (ce : Cell) (q9 : Addr) (u : SX) (t : State) (H1 : Heap) (locs1 : List Loc), t.heap = H1 → s.vm.Alike t.vm → px u → BX E u t → H.size ≤ H1.size → (∀ q : Nat, q < H.size → ¬ AX q → H1[q]? = H[q]?) → va_S A0 H0 H1 locs1 → H1[q9]? = some ce → ce.vm = .none → s.vm.findClass E = some ce.cls → vx_W p l e R s m args below meth c H1 locs1 (cells + mc) (slots + ms) Q (F0 m pc ls rest) q9)
    (kk : ∀ (r : Int64) (u : S) (t : State) (H1 : Heap) (locs1 : List Loc), t.heap = H1 → s.vm.Alike t.vm → post r u → B u t → H.size ≤ H1.size → (∀ q : Nat, q < H.size → ¬ A1 q → H1[q]? = H[q]?) → va_S A0 H0 H1 locs1 → W p l e R s m args below meth c H1 locs1 (cells + mc) (slots + ms) Q (F0 m (pc + 3) ls (.long r :: rest))) : W p l e R s m args below meth c H locs cells slots Q (F0 m pc ls st0) := by
  intro T hT X
  rcases hr T hT X with ⟨v, st₀, t, T', L, h0, X', hL, e1, e2, ⟨⟨r, u, hv, hp, hb⟩, hF⟩, st⟩ | ⟨q, st₀, t, T', L, E, ce, h0, X', hL, e1, e2, ⟨u, hp, hb, hF⟩, hce, hcv, hcl, st⟩
  · cases hv
    obtain ⟨k1, k2, k3⟩ := vx_keep h0 e1 hS hA hf hL hF
    obtain ⟨t2, a1, b1⟩ := kk r u t T'.heap (locs ++ L) e1.symm (by rw [← e2]; exact X'.warmed.alike) hp hb k1 k2 k3 T' rfl X'
    exact ⟨t2, st t2 a1, b1⟩
  · obtain ⟨k1, k2, k3⟩ := vx_keep h0 e1 hS hAX hf hL hF
    obtain ⟨t2, a1, b1⟩ := kx E ce q u t T'.heap (locs ++ L) e1.symm (by rw [← e2]; exact X'.warmed.alike) hp hb k1 k2 k3 (by rw [e1]; exact hce) hcv hcl T' rfl X'
    exact ⟨t2, st.trans a1, b1⟩
theorem vx_callf {S SX : Type} {post : UInt32 → S → Prop} {px : SX → Prop} {B : S → State → Prop} {BX : String → SX → State → Prop} {AX : Nat → Prop} (hr : vx_Run p l e R s m args below meth c H locs cells slots mc ms (F0 m pc ls st0) rest (va_Qf post B A1 a) (vx_X px BX AX) free) (hS : va_S A0 H0 H locs) (hA : ∀ q, q < H.size → A1 q → A0 q) (hf : ∀ q, free q → A0 q) (hAX : ∀ q, q < H.size → AX q → A0 q)
    (kx : ∀ (E : String) (ce : Cell) (q9 : Addr) (u : SX) (t : State) (H1 : Heap) (locs1 : List Loc), t.heap = H1 → s.vm.Alike t.vm → px u → BX E u t → H.size ≤ H1.size → (∀ q : Nat, q < H.size → ¬ AX q → H1[q]? = H[q]?) → va_S A0 H0 H1 locs1 → H1[q9]? = some ce → ce.vm = .none → s.vm.findClass E = some ce.cls → vx_W p l e R s m args below meth c H1 locs1 (cells + mc) (slots + ms) Q (F0 m pc ls rest) q9)
    (kk : ∀ (r : UInt32) (u : S) (t : State) (H1 : Heap) (locs1 : List Loc), t.heap = H1 → s.vm.Alike t.vm → post r u → B u t → H.size ≤ H1.size → (∀ q : Nat, q < H.size → ¬ A1 q → H1[q]? = H[q]?) → va_S A0 H0 H1 locs1 → W p l e R s m args below meth c H1 locs1 (cells + mc) (slots + ms) Q (F0 m (pc + 3) ls (.float r :: rest))) : W p l e R s m args below meth c H locs cells slots Q (F0 m pc ls st0) := by
  intro T hT X
  rcases hr T hT X with ⟨v, st₀, t, T', L, h0, X', hL, e1, e2, ⟨⟨r, u, hv, hp, hb⟩, hF⟩, st⟩ | ⟨q, st₀, t, T', L, E, ce, h0, X', hL, e1, e2, ⟨u, hp, hb, hF⟩, hce, hcv, hcl, st⟩
  · cases hv
    obtain ⟨k1, k2, k3⟩ := vx_keep h0 e1 hS hA hf hL hF
    obtain ⟨t2, a1, b1⟩ := kk r u t T'.heap (locs ++ L) e1.symm (by rw [← e2]; exact X'.warmed.alike) hp hb k1 k2 k3 T' rfl X'
    exact ⟨t2, st t2 a1, b1⟩
  · obtain ⟨k1, k2, k3⟩ := vx_keep h0 e1 hS hAX hf hL hF
    obtain ⟨t2, a1, b1⟩ := kx E ce q u t T'.heap (locs ++ L) e1.symm (by rw [← e2]; exact X'.warmed.alike) hp hb k1 k2 k3 (by rw [e1]; exact hce) hcv hcl T' rfl X'
    exact ⟨t2, st.trans a1, b1⟩
theorem vx_calld {S SX : Type} {post : UInt64 → S → Prop} {px : SX → Prop} {B : S → State → Prop} {BX : String → SX → State → Prop} {AX : Nat → Prop} (hr : vx_Run p l e R s m args below meth c H locs cells slots mc ms (F0 m pc ls st0) rest (va_Qd post B A1 a) (vx_X px BX AX) free) (hS : va_S A0 H0 H locs) (hA : ∀ q, q < H.size → A1 q → A0 q) (hf : ∀ q, free q → A0 q) (hAX : ∀ q, q < H.size → AX q → A0 q)
    (kx : ∀ (E : String) (ce : Cell) (q9 : Addr) (u : SX) (t : State) (H1 : Heap) (locs1 : List Loc), t.heap = H1 → s.vm.Alike t.vm → px u → BX E u t → H.size ≤ H1.size → (∀ q : Nat, q < H.size → ¬ AX q → H1[q]? = H[q]?) → va_S A0 H0 H1 locs1 → H1[q9]? = some ce → ce.vm = .none → s.vm.findClass E = some ce.cls → vx_W p l e R s m args below meth c H1 locs1 (cells + mc) (slots + ms) Q (F0 m pc ls rest) q9)
    (kk : ∀ (r : UInt64) (u : S) (t : State) (H1 : Heap) (locs1 : List Loc), t.heap = H1 → s.vm.Alike t.vm → post r u → B u t → H.size ≤ H1.size → (∀ q : Nat, q < H.size → ¬ A1 q → H1[q]? = H[q]?) → va_S A0 H0 H1 locs1 → W p l e R s m args below meth c H1 locs1 (cells + mc) (slots + ms) Q (F0 m (pc + 3) ls (.double r :: rest))) : W p l e R s m args below meth c H locs cells slots Q (F0 m pc ls st0) := by
  intro T hT X
  rcases hr T hT X with ⟨v, st₀, t, T', L, h0, X', hL, e1, e2, ⟨⟨r, u, hv, hp, hb⟩, hF⟩, st⟩ | ⟨q, st₀, t, T', L, E, ce, h0, X', hL, e1, e2, ⟨u, hp, hb, hF⟩, hce, hcv, hcl, st⟩
  · cases hv
    obtain ⟨k1, k2, k3⟩ := vx_keep h0 e1 hS hA hf hL hF
    obtain ⟨t2, a1, b1⟩ := kk r u t T'.heap (locs ++ L) e1.symm (by rw [← e2]; exact X'.warmed.alike) hp hb k1 k2 k3 T' rfl X'
    exact ⟨t2, st t2 a1, b1⟩
  · obtain ⟨k1, k2, k3⟩ := vx_keep h0 e1 hS hAX hf hL hF
    obtain ⟨t2, a1, b1⟩ := kx E ce q u t T'.heap (locs ++ L) e1.symm (by rw [← e2]; exact X'.warmed.alike) hp hb k1 k2 k3 (by rw [e1]; exact hce) hcv hcl T' rfl X'
    exact ⟨t2, st.trans a1, b1⟩
theorem vx_callv {S SX : Type} {post : S → Prop} {px : SX → Prop} {B : S → State → Prop} {BX : String → SX → State → Prop} {AX : Nat → Prop} (hr : vx_Run p l e R s m args below meth c H locs cells slots mc ms (F0 m pc ls st0) rest (va_Qv post B A1 a) (vx_X px BX AX) free) (hS : va_S A0 H0 H locs) (hA : ∀ q, q < H.size → A1 q → A0 q) (hf : ∀ q, free q → A0 q) (hAX : ∀ q, q < H.size → AX q → A0 q)
    (kx : ∀ (E : String) (ce : Cell) (q9 : Addr) (u : SX) (t : State) (H1 : Heap) (locs1 : List Loc), t.heap = H1 → s.vm.Alike t.vm → px u → BX E u t → H.size ≤ H1.size → (∀ q : Nat, q < H.size → ¬ AX q → H1[q]? = H[q]?) → va_S A0 H0 H1 locs1 → H1[q9]? = some ce → ce.vm = .none → s.vm.findClass E = some ce.cls → vx_W p l e R s m args below meth c H1 locs1 (cells + mc) (slots + ms) Q (F0 m pc ls rest) q9)
    (kk : ∀ (u : S) (t : State) (H1 : Heap) (locs1 : List Loc), t.heap = H1 → s.vm.Alike t.vm → post u → B u t → H.size ≤ H1.size → (∀ q : Nat, q < H.size → ¬ A1 q → H1[q]? = H[q]?) → va_S A0 H0 H1 locs1 → W p l e R s m args below meth c H1 locs1 (cells + mc) (slots + ms) Q (F0 m (pc + 3) ls (rest))) : W p l e R s m args below meth c H locs cells slots Q (F0 m pc ls st0) := by
  intro T hT X
  rcases hr T hT X with ⟨v, st₀, t, T', L, h0, X', hL, e1, e2, ⟨⟨u, hv, hp, hb⟩, hF⟩, st⟩ | ⟨q, st₀, t, T', L, E, ce, h0, X', hL, e1, e2, ⟨u, hp, hb, hF⟩, hce, hcv, hcl, st⟩
  · cases hv
    obtain ⟨k1, k2, k3⟩ := vx_keep h0 e1 hS hA hf hL hF
    obtain ⟨t2, a1, b1⟩ := kk u t T'.heap (locs ++ L) e1.symm (by rw [← e2]; exact X'.warmed.alike) hp hb k1 k2 k3 T' rfl X'
    exact ⟨t2, st t2 a1, b1⟩
  · obtain ⟨k1, k2, k3⟩ := vx_keep h0 e1 hS hAX hf hL hF
    obtain ⟨t2, a1, b1⟩ := kx E ce q u t T'.heap (locs ++ L) e1.symm (by rw [← e2]; exact X'.warmed.alike) hp hb k1 k2 k3 (by rw [e1]; exact hce) hcv hcl T' rfl X'
    exact ⟨t2, st.trans a1, b1⟩
/-- caught by the row x of this method's table; the rows ahead don't take it -/
theorem vx_catch {own name : String} {E : String} {ce : Cell} {q : Addr} (hown : s.vm.findClass own = some m.cls) (pre : List ExceptionTableEntry) (x : ExceptionTableEntry) (suf : List ExceptionTableEntry) (hsplit : c.exceptionTable.toList = pre ++ x :: suf)
    (hpass : ∀ z ∈ pre, covers z pc = false ∨ (z.catchType ≠ 0 ∧ ∃ nm : String, (Cond.classLink own z.catchType nm).before args s = true ∧ va_Nc E nm s)) (hx : covers x pc = true) (h0 : x.catchType ≠ 0)
    (hlink : (Cond.classLink own x.catchType name).before args s = true) (hcast : (Cond.castable E name).before args s = true) (hcell : H[q]? = some ce) (hv : ce.vm = .none) (hcl : s.vm.findClass E = some ce.cls)
    (kk : W p l e R s m args below meth c H locs cells slots Q (F0 m x.handlerPc ls [.ref q])) : vx_W p l e R s m args below meth c H locs cells slots Q (F0 m pc ls rest) q := by
  intro T hT X
  have hpl : e.platform.magicAccessors = ({} : Platform).magicAccessors := by rw [X.admits.platform]
  obtain ⟨c3, c4, hc3, hc4, hasg⟩ := Cond.castable_spec hcast
  cases Option.some.inj (hc3.symm.trans hcl)
  obtain ⟨c5, hc5, hcl5⟩ := Cond.classLink_spec hown hlink e.platform hpl
  cases Option.some.inj (hc4.symm.trans hc5)
  obtain ⟨vm', X', st⟩ := X.thenCaughtThrough q (g := F0 m pc ls rest) rfl (Steps.refl _) (by rw [hT]; exact hcell) (by rw [hv]; rfl) (by obtain ⟨k9, h9, -⟩ := Vm.findClass_spec hcl; exact ⟨k9, h9⟩) pre x suf hsplit
    (fun z hz => by
      rcases hpass z hz with h | ⟨hz0, nm, hl1, hn1⟩
      · exact Or.inl h
      · obtain ⟨c6, hc6, hcl6⟩ := Cond.classLink_spec hown hl1 e.platform hpl
        obtain ⟨a8, b8, h1, h2, h3⟩ := hn1
        cases Option.some.inj (h1.symm.trans hcl)
        cases Option.some.inj (h2.symm.trans hc6)
        exact Or.inr ⟨hz0, _, hcl6, h3⟩) hx (Or.inr ⟨h0, c4, hcl5, hasg⟩)
  obtain ⟨t, a1, b1⟩ := kk (T.setVm vm') hT X'
  exact ⟨t, st.trans a1, b1⟩
end Rows
section Ends
variable {p : Program} {l : Launch} {e : Env} {R : Room} {s : State} {m : MethodId} {args : Array Value} {below : List Frame} {meth : Method} {c : Code} {H : Heap} {locs : List Loc} {cells slots : Nat} {Q : State → Prop}
variable {mc ms : Nat} {free : Addr → Prop} {A0 A1 : Nat → Prop} {H0 : Heap} {a : Array Value} {ls : Array Slot} {st0 rest : List Value}
variable {Qc : Array Value → State → Outcome → State → Prop} {XC : String → State → State → Prop}
/-- what a body that may throw owes at its end -/
def vx_MQ (below : List Frame) (Qc : Array Value → State → Outcome → State → Prop) (XC : String → State → State → Prop) (a : Array Value) (s : State) (mc ms : Nat) (free : Addr → Prop) : State → Prop := fun t =>
  ∃ o, t.status = .running ∧ Ended t below o ∧ vx_Q Qc XC mc ms free a s o t
theorem vx_ret {g : JFrame} {mc ms : Nat} (k : W p l e R s m args below meth c H locs cells slots (MQ below Qc args s mc ms free) g) : W p l e R s m args below meth c H locs cells slots (vx_MQ below Qc XC args s mc ms free) g := by
  intro T hT X
  obtain ⟨t, a1, o, b1, b2, b3, b4⟩ := k T hT X
  exact ⟨t, a1, o, b1, b2, Or.inl ⟨b3, b4⟩⟩
/-- not caught here: it goes on to the caller -/
theorem vx_widen {g : JFrame} {q : Addr} {k n : Nat} (h1 : cells ≤ k) (h2 : slots ≤ n) (kk : vx_W p l e R s m args below meth c H locs k n Q g q) : vx_W p l e R s m args below meth c H locs cells slots Q g q := fun T hT X => kk T hT (stand_widen X h1 h2)
theorem vx_out {pc : Nat} {E : String} {ce : Cell} {q : Addr} {mc ms : Nat} (hout : ∀ x ∈ c.exceptionTable.toList, covers x pc = false) (hlocks : meth.locks = false) (hcell : H[q]? = some ce) (hv : ce.vm = .none) (hcl : s.vm.findClass E = some ce.cls)
    (hx : ∀ t : State, t.heap = H → s.vm.Alike t.vm → XC E s t) (hf : ∀ z ∈ locs, free z.base) (hc : cells ≤ mc) (hs : slots ≤ ms) :
    vx_W p l e R s m args below meth c H locs cells slots (vx_MQ below Qc XC args s mc ms free) (F0 m pc ls rest) q := by
  intro T hT X
  obtain ⟨st1, hrun, hend, hW, hsm⟩ := X.leaveThrown q (g := F0 m pc ls rest) rfl rfl rfl hout hlocks
  have hcell9 : (T.setFrames (.throwing q :: below)).heap[q]? = some ce := by
    show T.heap[q]? = some ce
    rw [hT]; exact hcell
  exact ⟨_, st1, .threw q, hrun, hend, Or.inr ⟨q, rfl, E, ce, locs, hx _ hT hW.alike, hcell9, hv, hcl, hW, hsm.mono hc hs, hf⟩⟩
theorem vx_frame {U : State} {k n : Nat} (h : s.sameButNew ({ U with vm := s.vm } : State) locs k n) : s.heap.size ≤ U.heap.size ∧ ∀ q : Nat, q < s.heap.size → (∀ z ∈ locs, z.base ≠ q) → U.heap[q]? = s.heap[q]? := by
  obtain ⟨-, h2, -, -, -, h6⟩ := h
  refine ⟨h2, fun q hq hz => ?_⟩
  obtain ⟨c9, e1, e2, e3, e4⟩ := h6 q _ (Array.getElem?_eq_getElem hq)
  have hs : c9.slots = (s.heap[q]).slots := Array.ext_getElem? fun i => e4 i fun hm => hz _ hm rfl
  have h9 : c9 = s.heap[q] := by
    rw [hs] at e2
    exact e2
  have e5 : U.heap[q]? = some c9 := e1
  rw [e5, h9, Array.getElem?_eq_getElem hq]
/-- the words of a throw but the four that speak of the heap -/
def vx_no (w : Cond) : Bool := decide (w ≠ .isRef (.static Bundle.tN "UNASSIGNED_STACK" Bundle.steD)) && decide (w ≠ .isRef (.static Bundle.tN "SUPPRESSED_SENTINEL" Bundle.listD)) && decide (w ≠ .laysStatic Bundle.tN "UNASSIGNED_STACK" Bundle.steD) && decide (w ≠ .laysStatic Bundle.tN "SUPPRESSED_SENTINEL" Bundle.listD)
def vx_at0 (own : String) (ic : Nat) (X : String) (names : List String) : List Cond := (Bundle.ownAtoms0 own ic X names).filter vx_no
def vx_atS (own : String) (ic : Nat) (X : String) (names : List String) : List Cond := (Bundle.ownAtoms own ic X names).filter vx_no
/-- a word that the tables alone decide, or a good one -/
def vx_ot (w : Cond) : Bool := w.onTables || goodWord w
theorem vx_ot_at {args a' : Array Value} {s U : State} {w : Cond} (hW : s.WarmedH U.vm) (hvm : s.vm = U.vm) (hg : vx_ot w = true) (h : w.before args s = true) : w.before a' U = true := by
  simp only [vx_ot, Bool.or_eq_true] at hg
  rcases hg with hg | hg
  · exact va_tabs hg hvm h
  · exact word_at hW (good_of_word hg) h
/-- a list's words: the good ones out of the method's own list, the others by premises of their own -/
theorem vx_hat {args : Array Value} {s : State} {L B : List Cond} (h1 : ∀ w ∈ L.filter goodWord, w.before args s = true) (h2 : ∀ w ∈ L.filter (fun w => !goodWord w), w ∈ B) (h3 : ∀ w ∈ B, w.before args s = true) : ∀ w ∈ L, w.before args s = true := by
  intro w hw
  by_cases g : goodWord w = true
  · exact h1 w (List.mem_filter.mpr ⟨hw, g⟩)
  · refine h3 w (h2 w (List.mem_filter.mpr ⟨hw, ?_⟩))
    show (!goodWord w) = true
    cases hgw : goodWord w
    · rfl
    · exact absurd hgw g
theorem vx_c {args : Array Value} {s : State} {w : Cond} {B : List Cond} (h : w.before args s = true) (t : ∀ w ∈ B, w.before args s = true) : ∀ w' ∈ w :: B, w'.before args s = true := fun w' h' => (List.mem_cons.mp h').elim (fun e => by rw [e]; exact h) (t w')
theorem vx_n {args : Array Value} {s : State} : ∀ w ∈ ([] : List Cond), w.before args s = true := fun _ h => nomatch h
theorem vx_own {args : Array Value} {s : State} {L : List Cond} (h1 : ∀ w ∈ L.filter vx_no, w.before args s = true)
    (hU : (Cond.isRef (.static Bundle.tN "UNASSIGNED_STACK" Bundle.steD)).before args s = true) (hN : (Cond.isRef (.static Bundle.tN "SUPPRESSED_SENTINEL" Bundle.listD)).before args s = true)
    (lU : (Cond.laysStatic Bundle.tN "UNASSIGNED_STACK" Bundle.steD).before args s = true) (lN : (Cond.laysStatic Bundle.tN "SUPPRESSED_SENTINEL" Bundle.listD).before args s = true) : ∀ w ∈ L, w.before args s = true := by
  intro w hw
  by_cases e1 : w = .isRef (.static Bundle.tN "UNASSIGNED_STACK" Bundle.steD)
  · rw [e1]; exact hU
  · by_cases e2 : w = .isRef (.static Bundle.tN "SUPPRESSED_SENTINEL" Bundle.listD)
    · rw [e2]; exact hN
    · by_cases e3 : w = .laysStatic Bundle.tN "UNASSIGNED_STACK" Bundle.steD
      · rw [e3]; exact lU
      · by_cases e4 : w = .laysStatic Bundle.tN "SUPPRESSED_SENTINEL" Bundle.listD
        · rw [e4]; exact lN
        · exact h1 w (List.mem_filter.mpr ⟨hw, by unfold vx_no; rw [decide_eq_true e1, decide_eq_true e2, decide_eq_true e3, decide_eq_true e4]; rfl⟩)
/-- where a static field lies, its class's statics cell in H -/
def vx_L (C n d : String) (A : Nat → Prop) (U : State) (H : Heap) : Prop := ∃ (c : ClassId) (k : Class) (i : Nat) (f : Field) (a : Nat) (cell : Cell), U.vm.findClass C = some c ∧ U.fieldFound? C n d = some (c, k, i, f) ∧ f.isStatic = true ∧ k.statics = some a ∧ H[a]? = some cell ∧ cell.vm.isStatics = true ∧ cell.cls = c ∧ f.slot < cell.slots.size ∧ k.staticTypes[f.slot]? = some f.type ∧ ¬ A a
theorem vx_L.moved {C n d : String} {A : Nat → Prop} {u U : State} {H : Heap} (hvm : u.vm.Alike U.vm) (h : vx_L C n d A u H) : vx_L C n d A U H := by
  obtain ⟨c, k, i, f, a, cell, h1, h2, h3, h4, h5, h6, h7, h8, h9, h10⟩ := h
  obtain ⟨k', hi', he⟩ := State.fieldFound?_setVm hvm h2
  exact ⟨c, k', i, f, a, cell, by rw [hvm.findClass]; exact h1, hi', h3, by rw [he]; exact h4, h5, h6, h7, h8, by rw [he]; exact h9, h10⟩
theorem vx_L.kept {C n d : String} {A : Nat → Prop} {U : State} {H H1 : Heap} (h : vx_L C n d A U H) (hq : ∀ a : Nat, a < H.size → ¬ A a → H1[a]? = H[a]?) : vx_L C n d A U H1 := by
  obtain ⟨c, k, i, f, a, cell, h1, h2, h3, h4, h5, h6, h7, h8, h9, h10⟩ := h
  exact ⟨c, k, i, f, a, cell, h1, h2, h3, h4, by rw [hq a (Array.getElem?_eq_some_iff.mp h5).1 h10]; exact h5, h6, h7, h8, h9, h10⟩
theorem vx_L.narrow {C n d : String} {A B : Nat → Prop} {U : State} {H : Heap} (h : vx_L C n d A U H) (hAB : ∀ q, B q → A q) : vx_L C n d B U H := by
  obtain ⟨c, k, i, f, a, cell, h1, h2, h3, h4, h5, h6, h7, h8, h9, h10⟩ := h
  exact ⟨c, k, i, f, a, cell, h1, h2, h3, h4, h5, h6, h7, h8, h9, fun z => h10 (hAB _ z)⟩
theorem vx_L.word {C n d : String} {A : Nat → Prop} {s : State} {args : Array Value} (h : vx_L C n d A s s.heap) : (Cond.laysStatic C n d).before args s = true := by
  obtain ⟨c, k, i, f, a, cell, h1, h2, h3, h4, h5, h6, h7, h8, h9, -⟩ := h
  show (Cond.laysStatic C n d).holds args s none s [] = true
  exact Cond.laysStatic_of h1 h2 h3 h4 h5 h6 h7 h8 h9
/-- .. and what it holds: null or some reference -/
def vx_Zq (C n d : String) (A : Nat → Prop) (U : State) (H : Heap) : Prop := va_Zq C n d A U H ∧ vx_L C n d A U H
theorem vx_Zq.moved {C n d : String} {A : Nat → Prop} {u U : State} {H : Heap} (hvm : u.vm.Alike U.vm) (h : vx_Zq C n d A u H) : vx_Zq C n d A U H := ⟨va_Zq.moved hvm h.1, vx_L.moved hvm h.2⟩
theorem vx_Zq.kept {C n d : String} {A : Nat → Prop} {U : State} {H H1 : Heap} (h : vx_Zq C n d A U H) (hq : ∀ a : Nat, a < H.size → ¬ A a → H1[a]? = H[a]?) : vx_Zq C n d A U H1 := ⟨va_Zq.kept h.1 hq, vx_L.kept h.2 hq⟩
theorem vx_Zq.narrow {C n d : String} {A B : Nat → Prop} {U : State} {H : Heap} (h : vx_Zq C n d A U H) (hAB : ∀ q, B q → A q) : vx_Zq C n d B U H := ⟨va_Zq.narrow h.1 hAB, vx_L.narrow h.2 hAB⟩
theorem vx_Zqof {args : Array Value} {s : State} {C n d : String} {A : Nat → Prop} (hl : (Cond.laysStatic C n d).before args s = true) (hini : (Cond.initialized C).before args s = true) (h : (Cond.isRef (.static C n d)).before args s = true) (hA : ∀ a : Nat, a < s.heap.size → ¬ A a) : vx_Zq C n d A s s.heap := by
  refine ⟨va_Zqof hl hini h hA, ?_⟩
  obtain ⟨c, k, i, f, a, cell, h1, h2, h3, h4, h5, h6, h7, h8, h9⟩ := Cond.laysStatic_spec hl
  exact ⟨c, k, i, f, a, cell, h1, h2, h3, h4, h5, h6, h7, h8, h9, hA a (Array.getElem?_eq_some_iff.mp h5).1⟩
theorem vx_isRef {C n d : String} {v : Value} {A : Nat → Prop} {s : State} {args : Array Value} (h : va_Z C n d v A s s.heap) (hv : v.isRef = true) : (Cond.isRef (.static C n d)).before args s = true := by
  obtain ⟨cf, kf, fi, f, a, cell, h1, h2, h3, h4, h5, h6, h7, -⟩ := h
  have he : (Term.static C n d).eval args s none [] s = some v := by
    simp [Term.eval, State.fieldNamed?, h1, h2, h4, h5, h6, h7]
  simp only [Cond.before, Cond.holds, Cond.value, he]
  cases v <;> simp_all [Value.isRef]
theorem vx_isRefq {C n d : String} {A : Nat → Prop} {s : State} {args : Array Value} (h : va_Zq C n d A s s.heap) : (Cond.isRef (.static C n d)).before args s = true := by
  rcases h with h | ⟨t, h⟩
  · exact vx_isRef h rfl
  · exact vx_isRef h rfl
/-- the same frame, seen from here: as if the method were called anew in this heap -/
theorem vx_rebase {T : State} (X : Stand p l e R s m args below meth c T locs cells slots) {R' : Room} (hf : R'.frames ≤ R.frames) (hl : R'.locals ≤ R.locals) (hc : cells + R'.cells ≤ R.cells) (hs : slots + R'.slots ≤ R.slots) :
    Stand p l e R' ((T.setVm s.vm).setFrames (.invoking m args :: below)) m args below meth c T [] 0 0 := by
  have htop : (T.setVm s.vm).topJava?.isSome := X.here.top
  have hF : ((T.setVm s.vm).setFrames (.invoking m args :: below)).frames = .invoking m args :: below := State.frames_setFrames _ (State.cur_lt_of_top htop)
  obtain ⟨g₀, hg0⟩ := Option.isSome_iff_exists.mp htop
  obtain ⟨r, hr⟩ := State.topJava?_eq_some.mp hg0
  have hl9 : e.platform.stackLimits (T.setVm s.vm).me = e.platform.stackLimits s.me := X.limits
  have hb9 : (T.setVm s.vm).me.stackBytes = s.me.stackBytes := X.bytes
  refine ⟨X.admits, X.cas, X.clock, hF, ?_, X.hears, X.method, X.code, X.here, X.tail, X.warmed, ?_, ?_, ?_⟩
  · have h := X.room
    have hU : ((T.setVm s.vm).setFrames (.invoking m args :: below)).localsInUse = s.localsInUse := by
      rw [State.localsInUse_invoking hF (meth := meth) (c := c) X.method X.code, State.localsInUse_invoking X.frames X.method X.code]
    simp only [State.hasRoom, Bool.and_eq_true, decide_eq_true_eq] at h ⊢
    obtain ⟨⟨⟨⟨h1, h2, h3, h4, h5, h6⟩, h7⟩, h8⟩, h9⟩ := h
    rw [X.frames, List.length_cons] at h2 h3
    have q1 := X.heapSize
    have q2 := X.used
    simp only [hF, hU, List.length_cons, State.stackLimits_setFrames, State.stackBytes_setFrames, hl9, hb9]
    refine ⟨⟨⟨⟨by omega, by omega, by omega, by omega, by omega, h6⟩, ?_⟩, ?_⟩, X.book⟩
    · show T.heap.size + R'.cells ≤ e.platform.maxCells
      omega
    · show T.slotsUsed + R'.slots ≤ e.platform.maxSlots
      omega
  · rw [State.stackLimits_setFrames]; rfl
  · rw [State.stackBytes_setFrames]; rfl
  · refine ⟨?_, Nat.le_refl _, Nat.le_refl _, ?_, ?_, fun a c9 h9 => ⟨c9, h9, rfl, rfl, fun _ _ => rfl⟩⟩
    · obtain ⟨t, ht, -⟩ := State.frames_cons hr
      show T.setVm s.vm = { ((T.setVm s.vm).setFrames (.invoking m args :: below)).setFrames (T.setVm s.vm).frames with heap := T.heap, slotsUsed := T.slotsUsed }
      rw [State.setFrames_setFrames, State.setFrames_self ht]
      rfl
    · show T.slotsUsed = T.slotsUsed + ((T.heap.toList.drop T.heap.size).map (·.slots.size)).sum
      rw [List.drop_eq_nil_of_le (Nat.le_of_eq Array.length_toList)]
      rfl
    · show ((T.heap.toList.drop T.heap.size).map (·.slots.size)).sum ≤ 0
      rw [List.drop_eq_nil_of_le (Nat.le_of_eq Array.length_toList)]
      exact Nat.le_refl _
/-- 'throw new E()': new; dup; invokespecial; athrow -/
theorem vx_throw0 {cc : ByteArray} {pc : Nat} (hexec : p.tables.exec = Jvm.exec) (hb : c.code = cc) (hl : l.stackTraces = false) {own cls : String} {names : List String} {ik ic mc ms : Nat} {A : Nat → Prop}
    (hown : s.vm.findClass own = some m.cls) (hcls : Bundle.fit cls = true) (hnames : ∀ n ∈ names, Bundle.fit n = true)
    (hk : (Cond.classLink own ik cls).before args s = true) (hini : (Cond.initialized cls).before args s = true) (hat : ∀ w ∈ vx_at0 own ic cls names, w.before args s = true)
    (hgood : ∀ w ∈ Cond.classLink own ik cls :: Cond.initialized cls :: vx_at0 own ic cls names, vx_ot w = true)
    (hU : vx_Zq Bundle.tN "UNASSIGNED_STACK" Bundle.steD A s s.heap) (hN : vx_Zq Bundle.tN "SUPPRESSED_SENTINEL" Bundle.listD A s s.heap) (hS : va_S A s.heap H locs) (hsize : ls.size = c.maxLocals)
    (d0 : decode cc pc = .ok (.new ik, 3)) (d3 : decode cc (pc + 3) = .ok (.dup, 1)) (d4 : decode cc (pc + 4) = .ok (.invokespecial ic, 3)) (d7 : decode cc (pc + 7) = .ok (.athrow, 1))
    (hout : ∀ x ∈ c.exceptionTable.toList, covers x (pc + 7) = false)
    (hRframes : names.length + 3 < R.frames) (hRlocals : (rest.map fun v => v.category).sum + (13 * (names.length + 1) + 42) ≤ R.locals) (hRcells : cells + 1 ≤ R.cells) (hRslots : slots + 6 ≤ R.slots) (hlocks : meth.locks = false)
    (hx : ∀ t : State, s.vm.Alike t.vm → H.size ≤ t.heap.size → (∀ q : Nat, q < H.size → t.heap[q]? = H[q]?) → XC cls s t)
    (hf : ∀ z ∈ locs, free z.base) (hc : cells + 1 ≤ mc) (hs : slots + 6 ≤ ms) :
    W p l e R s m args below meth c H locs cells slots (vx_MQ below Qc XC args s mc ms free) (F0 m pc ls rest) := by
  intro T hT X
  have htr : e.platform.stackTraces = false := (show e.platform.stackTraces = l.stackTraces by rw [X.admits.platform]).trans hl
  have Y := vx_rebase X (R' := { frames := R.frames, locals := R.locals, cells := 1, slots := 6 }) (Nat.le_refl _) (Nat.le_refl _) hRcells hRslots
  obtain ⟨s', hA⟩ : ∃ z, z = (T.setVm s.vm).setFrames (.invoking m args :: below) := ⟨_, rfl⟩
  rw [← hA] at Y
  have hvm : s'.vm = s.vm := by rw [hA]; rfl
  have hhp : s'.heap = H := by rw [hA]; exact hT
  have hW0 : s.WarmedH s'.vm := by rw [hvm]; exact State.WarmedH.refl s
  have hat' : ∀ w ∈ vx_at0 own ic cls names, w.before args s' = true := fun w hw => vx_ot_at hW0 hvm.symm (hgood w (List.mem_cons_of_mem _ (List.mem_cons_of_mem _ hw))) (hat w hw)
  have hk' : (Cond.classLink own ik cls).before args s' = true := vx_ot_at hW0 hvm.symm (hgood _ List.mem_cons_self) hk
  have hini' : (Cond.initialized cls).before args s' = true := vx_ot_at hW0 hvm.symm (hgood _ (List.mem_cons_of_mem _ List.mem_cons_self)) hini
  have hU' : vx_Zq Bundle.tN "UNASSIGNED_STACK" Bundle.steD A s' s'.heap := by rw [hhp]; exact vx_Zq.moved hW0.alike (hU.kept hS.2.1)
  have hN' : vx_Zq Bundle.tN "SUPPRESSED_SENTINEL" Bundle.listD A s' s'.heap := by rw [hhp]; exact vx_Zq.moved hW0.alike (hN.kept hS.2.1)
  have h : ∀ w ∈ Bundle.ownAtoms0 own ic cls names, w.before args s' = true := vx_own hat' (vx_isRefq hU'.1) (vx_isRefq hN'.1) hU'.2.word hN'.2.word
  have hown' : s'.vm.findClass own = some m.cls := by rw [hvm]; exact hown
  have hins : (Cond.instantiable cls 6).before args s' = true := h _ (by simp [Bundle.ownAtoms0])
  obtain ⟨vm₁, cX, kX, hfX, hkX, -, -, X₁, st1⟩ := Y.newCold hexec (own := own) (C := cls) (index := ik) (n := 6) hown' hk' hins hini'
    (g := F0 m pc ls rest) rfl (by rw [hb]; exact d0) (Nat.le_refl _) (Nat.le_refl _)
  generalize hT1 : (T.setVm vm₁).pushCell { cls := cX, slots := kX.instanceTypes.map defaultValue, vm := .none } = T1 at X₁ st1
  have hcat : (Value.ref T.heap.size).category = 1 := rfl
  have hcellA : T1.heap[T.heap.size]? = some (freshCell cX kX) := by rw [← hT1]; exact State.heap_pushCell_size _ _
  have d3' : decode c.code (pc + 3) = .ok (.dup, 1) := by rw [hb]; exact d3
  obtain ⟨U, hsteps, hrun, hend, hW, hsame, ce, hce, hO⟩ := X₁.ctorThrow0 hexec htr (own := own) (cls := cls) (names := names) (ic := ic) hown' hcls hnames h (fun x hx => nomatch hx) hfX hkX hcellA (by rw [hhp, hT]; exact Nat.le_refl _)
    (g := { method := m, pc := pc + 4, locals := ls, stack := .ref T.heap.size :: .ref T.heap.size :: rest, locked := none }) rfl hsize rfl rfl (rest := rest) rfl
    (by rw [hb]; exact d4) (by rw [hb]; exact d7) hout hRframes (by simp only [List.map_cons, List.sum_cons, hcat]; omega) hlocks
  obtain ⟨f1, f2⟩ := vx_frame hsame
  rw [hhp] at f1 f2
  have hWs : s.WarmedH U.vm := State.WarmedH.trans hW0 hW
  have hcl : s.vm.findClass cls = some ce.cls := by
    have h9 := hO.cls
    rw [hvm] at h9
    exact h9
  have hall : s.sameButNew ({ U with vm := s.vm } : State) locs mc ms := by
    subst hA
    obtain ⟨e1, e2⟩ := hsame
    rw [State.setFrames_setFrames] at e1
    have h2 : (T.setVm s.vm).sameButNew ({ U with vm := s.vm } : State) [] (0 + 1) (0 + 6) := ⟨e1, e2⟩
    have h3 := X.same.trans h2
    rw [List.append_nil] at h3
    exact h3.mono hc hs
  refine ⟨U, ?_, .threw T.heap.size, hrun, hend, Or.inr ⟨T.heap.size, rfl, cls, ce, locs, hx U hWs.alike f1 (fun q hq => f2 q hq (fun z hz => nomatch hz)), hce, hO.vm, hcl, hWs, hall, hf⟩⟩
  refine st1 _ ?_
  show Steps p.tables e below (T1.setTop { method := m, pc := pc + 3, locals := ls, stack := .ref T.heap.size :: rest, locked := none }) _
  jvm_step X₁.here [X₁.here.top, hexec, d3', Value.category]
  exact hsteps
/-- 'throw new E("text")': new; dup; ldc; invokespecial; athrow -/
theorem vx_throwS {cc : ByteArray} {pc : Nat} (hexec : p.tables.exec = Jvm.exec) (hb : c.code = cc) (hl : l.stackTraces = false) {own cls text : String} {names : List String} {ik is ic mc ms sa : Nat} {A : Nat → Prop}
    (hown : s.vm.findClass own = some m.cls) (hcls : Bundle.fit cls = true) (hnames : ∀ n ∈ names, Bundle.fit n = true)
    (hk : (Cond.classLink own ik cls).before args s = true) (hini : (Cond.initialized cls).before args s = true) (hstr : vk_R own is text sa s) (hat : ∀ w ∈ vx_atS own ic cls names, w.before args s = true)
    (hgood : ∀ w ∈ Cond.classLink own ik cls :: Cond.initialized cls :: vx_atS own ic cls names, vx_ot w = true)
    (hU : vx_Zq Bundle.tN "UNASSIGNED_STACK" Bundle.steD A s s.heap) (hN : vx_Zq Bundle.tN "SUPPRESSED_SENTINEL" Bundle.listD A s s.heap) (hS : va_S A s.heap H locs) (hsize : ls.size = c.maxLocals)
    (d0 : decode cc pc = .ok (.new ik, 3)) (d3 : decode cc (pc + 3) = .ok (.dup, 1)) (d4 : decode cc (pc + 4) = .ok (.ldc is, 2)) (d6 : decode cc (pc + 6) = .ok (.invokespecial ic, 3)) (d9 : decode cc (pc + 9) = .ok (.athrow, 1))
    (hout : ∀ x ∈ c.exceptionTable.toList, covers x (pc + 9) = false)
    (hRframes : names.length + 3 < R.frames) (hRlocals : (rest.map fun v => v.category).sum + (13 * (names.length + 1) + 43) ≤ R.locals) (hRcells : cells + 1 ≤ R.cells) (hRslots : slots + 6 ≤ R.slots) (hlocks : meth.locks = false)
    (hx : ∀ t : State, s.vm.Alike t.vm → H.size ≤ t.heap.size → (∀ q : Nat, q < H.size → t.heap[q]? = H[q]?) → XC cls s t)
    (hf : ∀ z ∈ locs, free z.base) (hc : cells + 1 ≤ mc) (hs : slots + 6 ≤ ms) :
    W p l e R s m args below meth c H locs cells slots (vx_MQ below Qc XC args s mc ms free) (F0 m pc ls rest) := by
  intro T hT X
  have htr : e.platform.stackTraces = false := (show e.platform.stackTraces = l.stackTraces by rw [X.admits.platform]).trans hl
  have Y := vx_rebase X (R' := { frames := R.frames, locals := R.locals, cells := 1, slots := 6 }) (Nat.le_refl _) (Nat.le_refl _) hRcells hRslots
  obtain ⟨s', hA⟩ : ∃ z, z = (T.setVm s.vm).setFrames (.invoking m args :: below) := ⟨_, rfl⟩
  rw [← hA] at Y
  have hvm : s'.vm = s.vm := by rw [hA]; rfl
  have hhp : s'.heap = H := by rw [hA]; exact hT
  have hW0 : s.WarmedH s'.vm := by rw [hvm]; exact State.WarmedH.refl s
  have hat' : ∀ w ∈ vx_atS own ic cls names, w.before args s' = true := fun w hw => vx_ot_at hW0 hvm.symm (hgood w (List.mem_cons_of_mem _ (List.mem_cons_of_mem _ hw))) (hat w hw)
  have hk' : (Cond.classLink own ik cls).before args s' = true := vx_ot_at hW0 hvm.symm (hgood _ List.mem_cons_self) hk
  have hini' : (Cond.initialized cls).before args s' = true := vx_ot_at hW0 hvm.symm (hgood _ (List.mem_cons_of_mem _ List.mem_cons_self)) hini
  have hU' : vx_Zq Bundle.tN "UNASSIGNED_STACK" Bundle.steD A s' s'.heap := by rw [hhp]; exact vx_Zq.moved hW0.alike (hU.kept hS.2.1)
  have hN' : vx_Zq Bundle.tN "SUPPRESSED_SENTINEL" Bundle.listD A s' s'.heap := by rw [hhp]; exact vx_Zq.moved hW0.alike (hN.kept hS.2.1)
  have h : ∀ w ∈ Bundle.ownAtoms own ic cls names, w.before args s' = true := vx_own hat' (vx_isRefq hU'.1) (vx_isRefq hN'.1) hU'.2.word hN'.2.word
  have hown' : s'.vm.findClass own = some m.cls := by rw [hvm]; exact hown
  have hins : (Cond.instantiable cls 6).before args s' = true := h _ (by simp [Bundle.ownAtoms])
  obtain ⟨vm₁, cX, kX, hfX, hkX, -, -, X₁, st1⟩ := Y.newCold hexec (own := own) (C := cls) (index := ik) (n := 6) hown' hk' hins hini'
    (g := F0 m pc ls rest) rfl (by rw [hb]; exact d0) (Nat.le_refl _) (Nat.le_refl _)
  generalize hT1 : (T.setVm vm₁).pushCell { cls := cX, slots := kX.instanceTypes.map defaultValue, vm := .none } = T1 at X₁ st1
  have hcat : (Value.ref T.heap.size).category = 1 := rfl
  have hcellA : T1.heap[T.heap.size]? = some (freshCell cX kX) := by rw [← hT1]; exact State.heap_pushCell_size _ _
  have d3' : decode c.code (pc + 3) = .ok (.dup, 1) := by rw [hb]; exact d3
  have d4' : decode c.code (pc + 4) = .ok (.ldc is, 2) := by rw [hb]; exact d4
  have hstr' : vk_R own is text sa s' := vk_R.warm hW0 hstr
  obtain ⟨U, hsteps, hrun, hend, hW, hsame, ce, hce, hO⟩ := X₁.ctorThrowS hexec htr (own := own) (cls := cls) (names := names) (ic := ic) hown' hcls hnames h (fun x hx => nomatch hx) hfX hkX hcellA (by rw [hhp, hT]; exact Nat.le_refl _) (msg := .ref sa) rfl
    (g := { method := m, pc := pc + 6, locals := ls, stack := .ref sa :: .ref T.heap.size :: .ref T.heap.size :: rest, locked := none }) rfl hsize rfl rfl (rest := rest) rfl
    (by rw [hb]; exact d6) (by rw [hb]; exact d9) hout hRframes (by simp only [List.map_cons, List.sum_cons, hcat]; omega) hlocks
  obtain ⟨f1, f2⟩ := vx_frame hsame
  rw [hhp] at f1 f2
  have hWs : s.WarmedH U.vm := State.WarmedH.trans hW0 hW
  have hcl : s.vm.findClass cls = some ce.cls := by
    have h9 := hO.cls
    rw [hvm] at h9
    exact h9
  have hall : s.sameButNew ({ U with vm := s.vm } : State) locs mc ms := by
    subst hA
    obtain ⟨e1, e2⟩ := hsame
    rw [State.setFrames_setFrames] at e1
    have h2 : (T.setVm s.vm).sameButNew ({ U with vm := s.vm } : State) [] (0 + 1) (0 + 6) := ⟨e1, e2⟩
    have h3 := X.same.trans h2
    rw [List.append_nil] at h3
    exact h3.mono hc hs
  refine ⟨U, ?_, .threw T.heap.size, hrun, hend, Or.inr ⟨T.heap.size, rfl, cls, ce, locs, hx U hWs.alike f1 (fun q hq => f2 q hq (fun z hz => nomatch hz)), hce, hO.vm, hcl, hWs, hall, hf⟩⟩
  refine st1 _ ?_
  show Steps p.tables e below (T1.setTop { method := m, pc := pc + 3, locals := ls, stack := .ref T.heap.size :: rest, locked := none }) _
  jvm_step X₁.here [X₁.here.top, hexec, d3', Value.category]
  exact X₁.ldcString hexec (own := own) (text := text) (index := is) (a := sa) hown' hstr'.1 hstr'.2
    (g := { method := m, pc := pc + 4, locals := ls, stack := .ref T.heap.size :: .ref T.heap.size :: rest, locked := none }) rfl d4' _ hsteps
/-- 'throw new E("text")', the text by a wide index -/
theorem vx_throwSW {cc : ByteArray} {pc : Nat} (hexec : p.tables.exec = Jvm.exec) (hb : c.code = cc) (hl : l.stackTraces = false) {own cls text : String} {names : List String} {ik is ic mc ms sa : Nat} {A : Nat → Prop}
    (hown : s.vm.findClass own = some m.cls) (hcls : Bundle.fit cls = true) (hnames : ∀ n ∈ names, Bundle.fit n = true)
    (hk : (Cond.classLink own ik cls).before args s = true) (hini : (Cond.initialized cls).before args s = true) (hstr : vk_R own is text sa s) (hat : ∀ w ∈ vx_atS own ic cls names, w.before args s = true)
    (hgood : ∀ w ∈ Cond.classLink own ik cls :: Cond.initialized cls :: vx_atS own ic cls names, vx_ot w = true)
    (hU : vx_Zq Bundle.tN "UNASSIGNED_STACK" Bundle.steD A s s.heap) (hN : vx_Zq Bundle.tN "SUPPRESSED_SENTINEL" Bundle.listD A s s.heap) (hS : va_S A s.heap H locs) (hsize : ls.size = c.maxLocals)
    (d0 : decode cc pc = .ok (.new ik, 3)) (d3 : decode cc (pc + 3) = .ok (.dup, 1)) (d4 : decode cc (pc + 4) = .ok (.ldc_w is, 3)) (d7 : decode cc (pc + 7) = .ok (.invokespecial ic, 3)) (d10 : decode cc (pc + 10) = .ok (.athrow, 1))
    (hout : ∀ x ∈ c.exceptionTable.toList, covers x (pc + 10) = false)
    (hRframes : names.length + 3 < R.frames) (hRlocals : (rest.map fun v => v.category).sum + (13 * (names.length + 1) + 43) ≤ R.locals) (hRcells : cells + 1 ≤ R.cells) (hRslots : slots + 6 ≤ R.slots) (hlocks : meth.locks = false)
    (hx : ∀ t : State, s.vm.Alike t.vm → H.size ≤ t.heap.size → (∀ q : Nat, q < H.size → t.heap[q]? = H[q]?) → XC cls s t)
    (hf : ∀ z ∈ locs, free z.base) (hc : cells + 1 ≤ mc) (hs : slots + 6 ≤ ms) :
    W p l e R s m args below meth c H locs cells slots (vx_MQ below Qc XC args s mc ms free) (F0 m pc ls rest) := by
  intro T hT X
  have htr : e.platform.stackTraces = false := (show e.platform.stackTraces = l.stackTraces by rw [X.admits.platform]).trans hl
  have Y := vx_rebase X (R' := { frames := R.frames, locals := R.locals, cells := 1, slots := 6 }) (Nat.le_refl _) (Nat.le_refl _) hRcells hRslots
  obtain ⟨s', hA⟩ : ∃ z, z = (T.setVm s.vm).setFrames (.invoking m args :: below) := ⟨_, rfl⟩
  rw [← hA] at Y
  have hvm : s'.vm = s.vm := by rw [hA]; rfl
  have hhp : s'.heap = H := by rw [hA]; exact hT
  have hW0 : s.WarmedH s'.vm := by rw [hvm]; exact State.WarmedH.refl s
  have hat' : ∀ w ∈ vx_atS own ic cls names, w.before args s' = true := fun w hw => vx_ot_at hW0 hvm.symm (hgood w (List.mem_cons_of_mem _ (List.mem_cons_of_mem _ hw))) (hat w hw)
  have hk' : (Cond.classLink own ik cls).before args s' = true := vx_ot_at hW0 hvm.symm (hgood _ List.mem_cons_self) hk
  have hini' : (Cond.initialized cls).before args s' = true := vx_ot_at hW0 hvm.symm (hgood _ (List.mem_cons_of_mem _ List.mem_cons_self)) hini
  have hU' : vx_Zq Bundle.tN "UNASSIGNED_STACK" Bundle.steD A s' s'.heap := by rw [hhp]; exact vx_Zq.moved hW0.alike (hU.kept hS.2.1)
  have hN' : vx_Zq Bundle.tN "SUPPRESSED_SENTINEL" Bundle.listD A s' s'.heap := by rw [hhp]; exact vx_Zq.moved hW0.alike (hN.kept hS.2.1)
  have h : ∀ w ∈ Bundle.ownAtoms own ic cls names, w.before args s' = true := vx_own hat' (vx_isRefq hU'.1) (vx_isRefq hN'.1) hU'.2.word hN'.2.word
  have hown' : s'.vm.findClass own = some m.cls := by rw [hvm]; exact hown
  have hins : (Cond.instantiable cls 6).before args s' = true := h _ (by simp [Bundle.ownAtoms])
  obtain ⟨vm₁, cX, kX, hfX, hkX, -, -, X₁, st1⟩ := Y.newCold hexec (own := own) (C := cls) (index := ik) (n := 6) hown' hk' hins hini'
    (g := F0 m pc ls rest) rfl (by rw [hb]; exact d0) (Nat.le_refl _) (Nat.le_refl _)
  generalize hT1 : (T.setVm vm₁).pushCell { cls := cX, slots := kX.instanceTypes.map defaultValue, vm := .none } = T1 at X₁ st1
  have hcat : (Value.ref T.heap.size).category = 1 := rfl
  have hcellA : T1.heap[T.heap.size]? = some (freshCell cX kX) := by rw [← hT1]; exact State.heap_pushCell_size _ _
  have d3' : decode c.code (pc + 3) = .ok (.dup, 1) := by rw [hb]; exact d3
  have d4' : decode c.code (pc + 4) = .ok (.ldc_w is, 3) := by rw [hb]; exact d4
  have hstr' : vk_R own is text sa s' := vk_R.warm hW0 hstr
  obtain ⟨U, hsteps, hrun, hend, hW, hsame, ce, hce, hO⟩ := X₁.ctorThrowS hexec htr (own := own) (cls := cls) (names := names) (ic := ic) hown' hcls hnames h (fun x hx => nomatch hx) hfX hkX hcellA (by rw [hhp, hT]; exact Nat.le_refl _) (msg := .ref sa) rfl
    (g := { method := m, pc := pc + 7, locals := ls, stack := .ref sa :: .ref T.heap.size :: .ref T.heap.size :: rest, locked := none }) rfl hsize rfl rfl (rest := rest) rfl
    (by rw [hb]; exact d7) (by rw [hb]; exact d10) hout hRframes (by simp only [List.map_cons, List.sum_cons, hcat]; omega) hlocks
  obtain ⟨f1, f2⟩ := vx_frame hsame
  rw [hhp] at f1 f2
  have hWs : s.WarmedH U.vm := State.WarmedH.trans hW0 hW
  have hcl : s.vm.findClass cls = some ce.cls := by
    have h9 := hO.cls
    rw [hvm] at h9
    exact h9
  have hall : s.sameButNew ({ U with vm := s.vm } : State) locs mc ms := by
    subst hA
    obtain ⟨e1, e2⟩ := hsame
    rw [State.setFrames_setFrames] at e1
    have h2 : (T.setVm s.vm).sameButNew ({ U with vm := s.vm } : State) [] (0 + 1) (0 + 6) := ⟨e1, e2⟩
    have h3 := X.same.trans h2
    rw [List.append_nil] at h3
    exact h3.mono hc hs
  refine ⟨U, ?_, .threw T.heap.size, hrun, hend, Or.inr ⟨T.heap.size, rfl, cls, ce, locs, hx U hWs.alike f1 (fun q hq => f2 q hq (fun z hz => nomatch hz)), hce, hO.vm, hcl, hWs, hall, hf⟩⟩
  refine st1 _ ?_
  show Steps p.tables e below (T1.setTop { method := m, pc := pc + 3, locals := ls, stack := .ref T.heap.size :: rest, locked := none }) _
  jvm_step X₁.here [X₁.here.top, hexec, d3', Value.category]
  exact X₁.ldcStringW hexec (own := own) (text := text) (index := is) (a := sa) hown' hstr'.1 hstr'.2
    (g := { method := m, pc := pc + 4, locals := ls, stack := .ref T.heap.size :: .ref T.heap.size :: rest, locked := none }) rfl d4' _ hsteps
end Ends
section Bodies
variable {l : Launch}
theorem vx_ofW {y : MethodName} {ws ws' : List Cond} {rm : Room} {Pc : Array Value → State → Prop} {Qc : Array Value → State → Outcome → State → Prop} {XC : String → State → State → Prop} {mc ms : Nat} {free : Addr → Prop} {cc : ByteArray} {maxL : Nat} {ret : Option FieldType}
    (hy : plainName y.cls = true) (hw : ws = Cond.code y cc maxL ret :: ws')
    (body : ∀ p e s m args below meth c s₁, BodyLoose p l y (headSpec ws rm) cc maxL ret e s m args below meth c s₁ → c.maxLocals = maxL → (∀ x ∈ c.exceptionTable.toList, False) → Pc args s →
      W p l e (headSpec ws rm).room s m args below meth c s.heap [] 0 0 (vx_MQ below Qc XC args s mc ms free) (entryFrame m args maxL)) : vx_Met l y ws rm Pc Qc XC mc ms free := by
  refine MetFree.of_bodyS (code := cc) (maxLocals := maxL) (ret := ret) hy ?_ ?_
  · intro args s m h hn
    obtain ⟨meth, c, h1, h2, h3, h4, h5, h6, -, -⟩ := Cond.code_spec hn (atoms_spec (ws := ws) h _ (by rw [hw]; exact List.mem_cons_self))
    exact ⟨meth, c, h1, h2, h3, h4, h5, h6⟩
  · intro p e s m args below meth c s₁ B hml hP _
    have hh0 : s₁.heap = s.heap := by rw [B.state]; rfl
    have ht : ∀ x ∈ c.exceptionTable.toList, False := by
      obtain ⟨meth9, c9, h1, h2, -, -, -, -, h7, -⟩ := Cond.code_spec B.named (atoms_spec (ws := ws) B.pre _ (by rw [hw]; exact List.mem_cons_self))
      cases Option.some.inj (h1.symm.trans B.method)
      cases Option.some.inj (h2.symm.trans (Stand.of_body B).code)
      intro x hx
      rw [Array.isEmpty_iff.mp h7] at hx
      cases hx
    obtain ⟨t, a1, o, b1, b2, b3⟩ := body p e s m args below meth c s₁ B hml ht hP s₁ hh0 (Stand.of_body B)
    exact ⟨t, o, a1, b1, b2, b3⟩
/-- the table of a body with handlers -/
theorem vx_table {p : Program} {x y : MethodName} {S : Spec} {cc bytes : ByteArray} {maxL maxL' : Nat} {ret ret' : Option FieldType} {e : Env} {s s₁ : State} {m : MethodId} {args : Array Value} {below : List Frame} {meth : Method} {c : Code} {hh : List (Nat × Nat × Nat × Nat)}
    (B : BodyLoose p l y S cc maxL ret e s m args below meth c s₁) (h : (Cond.codeWith y bytes maxL' ret' hh).before args s = true) : c.exceptionTable.toList = tableOf hh := by
  obtain ⟨m9, meth9, c9, hn9, h1, h2, -, -, h6, -⟩ := Cond.codeWith_spec h
  cases Option.some.inj (hn9.symm.trans B.named)
  cases Option.some.inj (h1.symm.trans B.method)
  cases Option.some.inj (h2.symm.trans (Stand.of_body B).code)
  rw [← h6, table_eq]
end Bodies
end VXA
/-! ===== END ===== -/
/-! ===== BEGIN a static call of a method with an exception table ===== -/
section VXS
variable {p : Program} {l : Launch} {e : Env} {R : Room} {s : State} {m : MethodId} {args : Array Value} {below : List Frame} {meth : Method} {c : Code} {T : State} {H : Heap} {locs : List Loc} {cells slots : Nat}
abbrev vx_CSW (R : Room) (s : State) (args : Array Value) (own : String) (index : Nat) (y : MethodName) (bytes : ByteArray) (maxL : Nat) (ret : Option FieldType) (hh : List (Nat × Nat × Nat × Nat)) (ws : List Cond) (rm : Room) (mc ms n : Nat) : Prop :=
  (rm.cells = mc ∧ rm.slots = ms ∧ rm.frames + 1 ≤ R.frames ∧ 8 + (maxL + 11) + rm.locals ≤ R.locals ∧ (∀ w ∈ ws, ∀ (a' : Array Value) (U : State), s.WarmedH U.vm → w.before a' U = true) ∧ Cond.codeWith y bytes maxL ret hh ∈ ws) ∧
  (Cond.codeWith y bytes maxL ret hh).before args s = true ∧ (Cond.initialized y.cls).before args s = true ∧ (y.cls ≠ "java/lang/invoke/MethodHandle" ∧ y.cls ≠ "java/lang/invoke/VarHandle") ∧
  (∀ sig, parseMethodDescriptor y.desc = some sig → n = sig.parameters.length) ∧ (Cond.methodLink own index y).before args s = true ∧ (Cond.static y).before args s = true
theorem vx_cwSW {own : String} {index maxL mc ms : Nat} {y : MethodName} {bytes : ByteArray} {ret : Option FieldType} {hh : List (Nat × Nat × Nat × Nat)} {Ts ws ws' : List Cond} {rm : Room} (n : Nat) (ht : ∀ w ∈ Ts, w.before args s = true) (hT : GoodIn Ts (va_wsS own index y ws)) (hw : ws = Cond.codeWith y bytes maxL ret hh :: ws') (hrc : rm.cells = mc) (hrs : rm.slots = ms)
    (hd : y.cls ≠ "java/lang/invoke/MethodHandle" ∧ y.cls ≠ "java/lang/invoke/VarHandle" ∧ (parseMethodDescriptor y.desc).map (fun d => d.parameters.length) = some n) (hR : rm.frames + 1 ≤ R.frames ∧ 8 + (maxL + 11) + rm.locals ≤ R.locals) :
    vx_CSW R s args own index y bytes maxL ret hh ws rm mc ms n := by
  have ok : ∀ w ∈ va_wsS own index y ws, w.before args s = true := fun w h => ht w (hT w h).1
  have hG : GoodIn Ts ws := fun w h => hT w (by unfold va_wsS; exact List.mem_append_right _ h)
  have hc : Cond.codeWith y bytes maxL ret hh ∈ ws := by rw [hw]; exact List.mem_cons_self
  refine ⟨⟨hrc, hrs, hR.1, hR.2, pay_in ht hG, hc⟩, ht _ (hG _ hc).1, ok _ (by simp [va_wsS]), ⟨hd.1, hd.2.1⟩, fun sig h => ?_, ok _ (by simp [va_wsS]), ok _ (by simp [va_wsS])⟩
  have h2 := hd.2.2
  rw [h] at h2
  exact (Option.some.inj h2).symm
theorem vx_callSW (X : Stand p l e R s m args below meth c T locs cells slots) (hexec : p.tables.exec = Jvm.exec) {own : String} {index : Nat} {y : MethodName} {bytes : ByteArray} {maxL : Nat} {ret : Option FieldType} {hh : List (Nat × Nat × Nat × Nat)}
    (hown : s.vm.findClass own = some m.cls) (hlink : (Cond.methodLink own index y).before args s = true) (hstat : (Cond.static y).before args s = true) (hinit : (Cond.initialized y.cls).before args s = true)
    (hcode : (Cond.codeWith y bytes maxL ret hh).before args s = true) (hy : y.cls ≠ "java/lang/invoke/MethodHandle" ∧ y.cls ≠ "java/lang/invoke/VarHandle")
    {W9 : Nat} {Pre : Pt → Array Value → Prop} {Post : Pt → Array Value → Option Value → Pt → Prop} (hK : Back l R p e below s args y 3 W9 Pre Post)
    {g : JFrame} (hg : g.method = m) (hsize : g.locals.size = c.maxLocals) {argsL rest : List Value} (hlen : ∀ sig, parseMethodDescriptor y.desc = some sig → argsL.length = sig.parameters.length)
    (hstack : g.stack = argsL.reverse ++ rest) (hW : 2 * g.monitorRoom + (rest.map fun v => v.category).sum ≤ W9) (hdg : decode c.code g.pc = .ok (.invokestatic index, 3))
    (hpre : ∀ vm₁, s.WarmedH vm₁ → Pre ⟨T.setVm vm₁, locs, cells, slots⟩ argsL.toArray) :
    ∃ (v : Option Value) (vm₁ : Vm) (B : Pt), s.WarmedH vm₁ ∧ Stand p l e R s m args below meth c B.U B.locs B.cells B.slots ∧ Post ⟨T.setVm vm₁, locs, cells, slots⟩ argsL.toArray v B ∧
      ∀ target, Steps p.tables e below (B.U.setTop { g with pc := g.pc + 3, stack := v.toList ++ rest }) target → Steps p.tables e below (T.setTop g) target := by
  obtain ⟨mk, methM, cM, hnamed, hmethM, -, -, -, -, -, -, hsigM⟩ := Cond.codeWith_spec hcode
  have hstatic : methM.isStatic = true := Cond.static_spec hnamed hmethM hstat
  obtain ⟨kP, hkP, -⟩ := className_of_methodNamed hnamed
  have hinitP : kP.init = .initialized := Cond.initialized_spec (findClass_of_methodNamed hnamed) hkP hinit
  obtain ⟨vm₁, X₁, hstep₁⟩ := X.invokestatic hexec hown hlink hnamed hmethM hstatic hkP hinitP hy (g := g) hg (argsL := argsL) (rest := rest) (hlen _ hsigM) hstack hdg
  obtain ⟨v, B, X', hpost, hsteps⟩ := hK m meth c ⟨T.setVm vm₁, locs, cells, slots⟩ { g with stack := rest } (.invokestatic index) mk argsL.toArray X₁ hg hsize hdg hW (X₁.named hnamed) (hpre vm₁ X₁.warmed)
  exact ⟨v, vm₁, B, X₁.warmed, X', hpost, fun target h => hstep₁ _ fun acts => by rw [doInvoke_state]; exact hsteps.trans h⟩
theorem vx_runSW {y : MethodName} {bytes cc : ByteArray} {maxL nL mc ms n index : Nat} {ret : Option FieldType} {hh : List (Nat × Nat × Nat × Nat)} {ws : List Cond} {rm : Room} {Pc : Array Value → State → Prop} {Qc : Array Value → State → Outcome → State → Prop} {free : Addr → Prop} {Ts : List Cond} {own : String} {As rest : List Value} {g : JFrame}
    (S : CallFix p m c cc nL s args Ts own) (hM : Met l y ws rm Pc Qc mc ms free) (cw : vx_CSW R s args own index y bytes maxL ret hh ws rm mc ms n) (hp : PreS s H Pc As)
    (hg : g.method = m) (hn : As.length = n) (hsize : g.locals.size = nL) (hstack : g.stack = As.reverse ++ rest) (hW : 2 * g.monitorRoom + (rest.map fun v => v.category).sum ≤ 8) (hdg : decode cc g.pc = .ok (.invokestatic index, 3)) (hf : cells + mc ≤ R.cells ∧ slots + ms ≤ R.slots) :
    va_Run p l e R s m args below meth c H locs cells slots mc ms g rest (Qc As.toArray) (free) := by
  obtain ⟨⟨hrc, hrs, hfr, hlo, hws, hcw⟩, hcode, hini, hy, hlen, hl, hstt⟩ := cw
  have hK : Back l R p e below s args y 3 8 (PreOf R mc ms Pc) (PostOf Qc mc ms free) := va_backW (hh := hh) (bytes := bytes) (maxL := maxL) (ret := ret) hM hp.1 hrc hrs hfr hlo hws hcw (fun a' U hW => word_at hW (Or.inl (by first | rfl | simp [Cond.onTables, Cond.keeps, Cond.steady])) hini)
  obtain ⟨hx, hb, hml, ho, -⟩ := S
  intro T hT X
  obtain ⟨v, vm₁, ⟨U', l2, c2, s2⟩, hW₁, X', ⟨g', mk, t, L, e1, e2, hq, h1, hL, h2, h3⟩, st⟩ := vx_callSW X hx (hh := hh) (bytes := bytes) (maxL := maxL) (ret := ret) ho hl hstt hini hcode hy hK hg (hsize.trans hml.symm) (argsL := As) (rest := rest) (fun sig h => hn.trans (hlen sig h)) hstack hW (by rw [hb]; exact hdg)
    (fun vm₁ hW₁ => ⟨hf.1, hf.2, hp.2 (T.setVm vm₁) hT hW₁⟩)
  dsimp only [Pt.U, Pt.locs, Pt.cells, Pt.slots] at X' e1 e2 h1 h2 h3 st
  subst h1; subst h2; subst h3
  exact ⟨v, (T.setVm vm₁).calling g' mk As.toArray, t, U', L, hT, X', hL, e1, e2, hq, st⟩
/-- not caught here, past rows that name other classes: it goes on to the caller -/
theorem vx_outP {p : Program} {l : Launch} {e : Env} {R : Room} {s : State} {m : MethodId} {args : Array Value} {below : List Frame} {meth : Method} {c : Code} {H : Heap} {locs : List Loc} {cells slots : Nat} {free : Addr → Prop} {ls : Array Slot} {rest : List Value} {Qc : Array Value → State → Outcome → State → Prop} {XC : String → State → State → Prop}
    {pc : Nat} {own E : String} {ce : Cell} {q : Addr} {mc ms : Nat} (hown : s.vm.findClass own = some m.cls) (hlocks : meth.locks = false)
    (hpass : ∀ z ∈ c.exceptionTable.toList, covers z pc = false ∨ (z.catchType ≠ 0 ∧ ∃ nm : String, (Cond.classLink own z.catchType nm).before args s = true ∧ va_Nc E nm s)) (hcell : H[q]? = some ce) (hv : ce.vm = .none) (hcl : s.vm.findClass E = some ce.cls)
    (hx : ∀ t : State, t.heap = H → s.vm.Alike t.vm → XC E s t) (hf : ∀ z ∈ locs, free z.base) (hc : cells ≤ mc) (hs : slots ≤ ms) :
    vx_W p l e R s m args below meth c H locs cells slots (vx_MQ below Qc XC args s mc ms free) (F0 m pc ls rest) q := by
  intro T hT X
  have hpl : e.platform.magicAccessors = ({} : Platform).magicAccessors := by rw [X.admits.platform]
  obtain ⟨vm', hW', X', st⟩ := X.outThrough hlocks q (g := F0 m pc ls rest) rfl rfl rfl (cell := ce) (by rw [hT]; exact hcell) (by rw [hv]; rfl)
    (by obtain ⟨k9, h9, -⟩ := Vm.findClass_spec hcl; exact ⟨k9, h9⟩) (fun z hz => by
      rcases hpass z hz with h | ⟨hz0, nm, hl1, hn1⟩
      · exact Or.inl h
      · obtain ⟨c6, hc6, hcl6⟩ := Cond.classLink_spec hown hl1 e.platform hpl
        obtain ⟨a8, b8, h1, h2, h3⟩ := hn1
        cases Option.some.inj (h1.symm.trans hcl)
        cases Option.some.inj (h2.symm.trans hc6)
        exact Or.inr ⟨hz0, _, hcl6, h3⟩)
  obtain ⟨g₀, hfr⟩ := X'.frames_eq
  have hcell9 : ((T.setVm vm').setFrames (.throwing q :: below)).heap[q]? = some ce := by
    show T.heap[q]? = some ce
    rw [hT]; exact hcell
  have hend : Ended ((T.setVm vm').setFrames (.throwing q :: below)) below (.threw q) := State.frames_setFrames _ (State.cur_lt_of_frames hfr)
  refine ⟨(T.setVm vm').setFrames (.throwing q :: below), ?_, .threw q, X'.here.running, hend, Or.inr ⟨q, rfl, E, ce, locs, hx _ hT (X'.ends _).1.alike, hcell9, hv, hcl, (X'.ends _).1, (X'.ends _).2.mono hc hs, hf⟩⟩
  rw [X.pushThrowing_eq]
  exact st
/-- a thing of a world lies in the heap -/
theorem vx_lt {D : va_G} {cl : List vw_C} {ws : va_W} {H1 : Heap} (h : va_P D cl ws H1) {k : Nat} {q : Nat × va_E} (hk : ws[k]? = some q) : q.1 < H1.size := (h k q hk).lt
end VXS
/-! ===== END ===== -/
end
section
/-! 01 The store that stands for the world of both sides, what a heap shows of it, and the judgement pl_J: from here the machine comes to its end. -/
abbrev pl_S : Type := (Nat → Nat × Nat) × (Nat → Nat → Int32) × Nat × Nat
abbrev pl_G : Type := va_G × (Nat → ClassId) × (Nat → Cell) × (Nat → Nat)
def pl_un : Value := .double 0
def pl_isU : Value → Bool
  | .double _ => true
  | _ => false
def pl_re (ad : Nat → Nat) : Value → Value
  | .ref q => .ref (ad q)
  | .int x => .int x
  | .long x => .long x
  | .float x => .float x
  | .double x => .double x
  | .null => .null
  | .retAddr x => .retAddr x
theorem pl_re_cat (ad : Nat → Nat) (v : Value) : (pl_re ad v).category = v.category := by cases v <;> rfl
def pl_gv (ad : Nat → Nat) (b : Bool) (x : Int32) : Value := if b = true then (if x = -1 then .null else .ref (ad x.toNatClampNeg)) else .int x
def pl_rv (x : Int32) : Value := if x = -1 then .null else .ref x.toNatClampNeg
theorem pl_re_rv (ad : Nat → Nat) (x : Int32) : pl_re ad (pl_rv x) = pl_gv ad true x := by
  unfold pl_rv pl_gv
  by_cases h : x = -1
  · simp [h, pl_re]
  · simp [h, pl_re]
theorem pl_rv_cat (x : Int32) : (pl_rv x).category = 1 := by
  unfold pl_rv
  by_cases h : x = -1
  · simp [h, Value.category]
  · simp [h, Value.category]
/-- the fields of the four kinds of object: declarer, name, descriptor, final -/
def pl_fl : Nat → List (String × String × String × Bool)
  | 0 => [("PageLayouter", "made", "[LPageLayouter$Box;", true), ("PageLayouter", "columns", "LPageLayouter$Columns;", true), ("PageLayouter", "count", "I", false), ("PageLayouter", "settled", "Z", false)]
  | 1 => [("PageLayouter$Box", "number", "I", true), ("PageLayouter$Box", "parent", "LPageLayouter$Box;", true), ("PageLayouter$Box", "sort", "I", true), ("PageLayouter$Box", "depth", "I", true), ("PageLayouter$Box", "values", "[I", true), ("PageLayouter$Box", "firstChild", "LPageLayouter$Box;", false), ("PageLayouter$Box", "lastChild", "LPageLayouter$Box;", false), ("PageLayouter$Box", "nextSibling", "LPageLayouter$Box;", false), ("PageLayouter$Box", "kind", "I", false), ("PageLayouter$Box", "cell", "Z", false), ("PageLayouter$Box", "lesserCore", "I", false), ("PageLayouter$Box", "greaterCore", "I", false), ("PageLayouter$Box", "firstColumn", "I", false), ("PageLayouter$Box", "columnCount", "I", false), ("PageLayouter$Box", "width", "I", false), ("PageLayouter$Box", "fixedHeight", "I", false), ("PageLayouter$Box", "height", "I", false), ("PageLayouter$Box", "x", "I", false), ("PageLayouter$Box", "y", "I", false), ("PageLayouter$Box", "open", "Z", false)]
  | 2 => [("PageLayouter$Columns", "least", "[I", true), ("PageLayouter$Columns", "most", "[I", true), ("PageLayouter$Columns", "width", "[I", true), ("PageLayouter$Columns", "used", "I", false)]
  | _ => [("PageLayouterModel", "thrown", "I", false), ("PageLayouterModel", "boxes", "I", false), ("PageLayouterModel", "laid", "Z", false), ("PageLayouterModel", "parent", "[I", false), ("PageLayouterModel", "depth", "[I", false), ("PageLayouterModel", "sort", "[I", false), ("PageLayouterModel", "property", "[I", false), ("PageLayouterModel", "free", "[Z", false), ("PageLayouterModel", "treated", "[I", false), ("PageLayouterModel", "cell", "[Z", false), ("PageLayouterModel", "place", "[I", false), ("PageLayouterModel", "lesser", "[I", false), ("PageLayouterModel", "greater", "[I", false), ("PageLayouterModel", "wide", "[I", false), ("PageLayouterModel", "high", "[I", false), ("PageLayouterModel", "fixed", "[I", false), ("PageLayouterModel", "down", "[I", false), ("PageLayouterModel", "x", "[I", false), ("PageLayouterModel", "y", "[I", false), ("PageLayouterModel", "columns", "[I", false), ("PageLayouterModel", "columnWide", "[I", false), ("PageLayouterModel", "least", "[I", false), ("PageLayouterModel", "most", "[I", false), ("PageLayouterModel", "open", "[Z", false), ("PageLayouterModel", "rank", "[I", false), ("PageLayouterModel", "inside", "[I", false)]
def pl_F (c : Nat) : u_T := fun k => (pl_fl c).getD k ("", "", "", false)
def pl_cl : List vw_C := [("PageLayouter", pl_F 0, 4), ("PageLayouter$Box", pl_F 1, 20), ("PageLayouter$Columns", pl_F 2, 4), ("PageLayouterModel", pl_F 3, 26)]
def pl_ty (c k : Nat) : FieldType := (parseFieldDescriptor (pl_F c k).2.2.1).getD .int
theorem pl_ty_ok : ∀ c, c < 4 → ∀ r, pl_cl[c]? = some r → ∀ k, k < r.2.2 → parseFieldDescriptor (r.2.1 k).2.2.1 = some (pl_ty c k) := by
  intro c hc r hr k hk
  have h0 : ∀ c, c < 4 → ∀ k, k < (pl_fl c).length → parseFieldDescriptor (pl_F c k).2.2.1 = some (pl_ty c k) := by decide +kernel
  match c, hc with
  | 0, _ => cases hr; exact h0 0 (by decide) k hk
  | 1, _ => cases hr; exact h0 1 (by decide) k hk
  | 2, _ => cases hr; exact h0 2 (by decide) k hk
  | 3, _ => cases hr; exact h0 3 (by decide) k hk
theorem pl_nm_ok : ∀ c, c < 4 → ∀ r, pl_cl[c]? = some r → ∀ a, a < r.2.2 → ∀ b, b < r.2.2 → a ≠ b → (r.2.1 a).2.1 ≠ (r.2.1 b).2.1 := by
  intro c hc r hr a ha b hb
  have h0 : ∀ c, c < 4 → ∀ a, a < (pl_fl c).length → ∀ b, b < (pl_fl c).length → a ≠ b → (pl_F c a).2.1 ≠ (pl_F c b).2.1 := by decide +kernel
  match c, hc with
  | 0, _ => cases hr; exact h0 0 (by decide) a ha b hb
  | 1, _ => cases hr; exact h0 1 (by decide) a ha b hb
  | 2, _ => cases hr; exact h0 2 (by decide) a ha b hb
  | 3, _ => cases hr; exact h0 3 (by decide) a ha b hb
/-- which slots hold references: 1 int[], 2 boolean[], 3 long[], 4 Box[], 5 .. 8 the four kinds of object -/
def pl_rt (code k : Nat) : Bool := match code with
  | 4 => true
  | 5 => decide (k < 2)
  | 6 => decide (k = 1) || (decide (4 ≤ k) && decide (k < 8))
  | 7 => decide (k < 3)
  | 8 => decide (3 ≤ k)
  | _ => false
def pl_tys (G : pl_G) : List (ClassId × FieldType) := [(G.2.1 1, .int), (G.2.1 2, .boolean), (G.2.1 3, .long), (G.2.1 4, .object "PageLayouter$Box")]
def pl_av (ad : Nat → Nat) (code : Nat) (x : Int32) : Value := if code = 3 then .long x.toInt64 else pl_gv ad (pl_rt code 0) x
/-- the cell of number q: 9 is an int[] that nobody writes -/
def pl_at (G : pl_G) (ad : Nat → Nat) (q : Nat) (kd : Nat × Nat) (f : Nat → Int32) (H : Heap) : Prop :=
  if kd.1 < 5 then H[ad q]? = some (arrV (G.2.1 kd.1) kd.2 (fun j => pl_av ad kd.1 (f j)))
  else if kd.1 < 9 then ∃ r : vw_C, pl_cl[kd.1 - 5]? = some r ∧ t_OB (ad q) (G.1.1 (kd.1 - 5)) r.2.2 (G.1.2 (kd.1 - 5)) H (fun k => pl_gv ad (pl_rt kd.1 k) (f k))
  else H[ad q]? = some (G.2.2.1 q) ∧ (G.2.2.1 q).vm ≠ .unknown ∧ (G.2.2.1 q).slots.size = kd.2 ∧ ∀ j, j < kd.2 → (G.2.2.1 q).slots[j]? = some (.int (f j))
def pl_live (σ : pl_S) (q : Nat) : Prop := (σ.1 q).1 ≠ 0
def pl_ok (σ : pl_S) (x : Int32) : Prop := x = -1 ∨ pl_live σ x.toNatClampNeg
def pl_Rep (G : pl_G) (ad : Nat → Nat) (σ : pl_S) (H : Heap) : Prop :=
  (∀ q, pl_live σ q → pl_at G ad q (σ.1 q) (σ.2.1 q) H) ∧ (∀ q q', pl_live σ q → pl_live σ q' → ad q = ad q' → q = q') ∧
  (∀ q, pl_live σ q → ∀ k, pl_rt (σ.1 q).1 k = true → pl_ok σ (σ.2.1 q k)) ∧ ∀ q, pl_live σ q → (σ.1 q).1 = 9 → ad q = G.2.2.2 q
def pl_put (σ : pl_S) (q k : Nat) (x : Int32) : pl_S := (σ.1, fun a b => if a = q ∧ b = k then x else σ.2.1 a b, σ.2.2)
theorem pl_at.kept {G : pl_G} {ad : Nat → Nat} {q : Nat} {kd : Nat × Nat} {f : Nat → Int32} {H H1 : Heap} (h : pl_at G ad q kd f H) (hq : H1[ad q]? = H[ad q]?) : pl_at G ad q kd f H1 := by
  unfold pl_at at h ⊢
  by_cases h5 : kd.1 < 5
  · rw [if_pos h5] at h ⊢
    exact hq.trans h
  · rw [if_neg h5] at h ⊢
    by_cases h9 : kd.1 < 9
    · rw [if_pos h9] at h ⊢
      obtain ⟨r, h1, h2⟩ := h
      exact ⟨r, h1, h2.kept hq⟩
    · rw [if_neg h9] at h ⊢
      exact ⟨hq.trans h.1, h.2⟩
theorem pl_at.lt {G : pl_G} {ad : Nat → Nat} {q : Nat} {kd : Nat × Nat} {f : Nat → Int32} {H : Heap} (h : pl_at G ad q kd f H) : ad q < H.size := by
  unfold pl_at at h
  by_cases h5 : kd.1 < 5
  · rw [if_pos h5] at h
    exact (Array.getElem?_eq_some_iff.mp h).1
  · rw [if_neg h5] at h
    by_cases h9 : kd.1 < 9
    · rw [if_pos h9] at h
      obtain ⟨r, h1, cell, h2, -⟩ := h
      exact (Array.getElem?_eq_some_iff.mp h2).1
    · rw [if_neg h9] at h
      exact (Array.getElem?_eq_some_iff.mp h.1).1
theorem pl_Rep.put {G : pl_G} {ad : Nat → Nat} {σ : pl_S} {H H1 : Heap} (h : pl_Rep G ad σ H) {q k : Nat} {x : Int32} (hq : pl_live σ q) (hx : pl_rt (σ.1 q).1 k = true → pl_ok σ x)
    (he : pl_at G ad q (σ.1 q) (fun b => if b = k then x else σ.2.1 q b) H1) (ho : ∀ a, a ≠ ad q → H1[a]? = H[a]?) : pl_Rep G ad (pl_put σ q k x) H1 := by
  refine ⟨fun p hp => ?_, h.2.1, fun p hp j hj => ?_, h.2.2.2⟩
  · by_cases hpq : p = q
    · subst hpq
      simpa [pl_put] using he
    · have hne : ad p ≠ ad q := fun z => hpq (h.2.1 p q hp hq z)
      have h1 := (h.1 p hp).kept (ho _ hne)
      simpa [pl_put, hpq] using h1
  · by_cases hpq : p = q ∧ j = k
    · obtain ⟨rfl, rfl⟩ := hpq
      have := hx hj
      simpa [pl_put, pl_ok, pl_live] using this
    · have := h.2.2.1 p hp j hj
      simpa [pl_put, pl_ok, pl_live, hpq] using this
/-- the locals -/
def pl_LR (ad : Nat → Nat) (ls : Array Slot) (L : List Value) (nL : Nat) : Prop := ls.size = nL ∧ lv_wf ls ∧ ∀ (i : Nat) (v : Value), L[i]? = some v → pl_isU v = false → ls[i]? = some (.val (pl_re ad v))
def pl_set (L : List Value) (i : Nat) (v : Value) : List Value := match i with
  | 0 => L.set 0 v
  | j + 1 => if (L.getD j .null).category = 2 then (L.set (j + 1) v).set j pl_un else L.set (j + 1) v
def pl_set2 (L : List Value) (i : Nat) (v : Value) : List Value := (pl_set L i v).set (i + 1) pl_un
def pl_al (ad : Nat → Nat) (L : List Value) : List (Nat × Value) := (List.range L.length).filterMap (fun j => if pl_isU (L.getD j pl_un) = true then none else some (j, pl_re ad (L.getD j pl_un)))
theorem pl_al_mem {ad : Nat → Nat} {L : List Value} {q : Nat × Value} : q ∈ pl_al ad L ↔ ∃ v, L[q.1]? = some v ∧ pl_isU v = false ∧ q.2 = pl_re ad v := by
  unfold pl_al
  rw [List.mem_filterMap]
  constructor
  · rintro ⟨j, hj, h⟩
    have hj' := List.mem_range.mp hj
    split at h
    · cases h
    · rename_i hu
      cases h
      refine ⟨L.getD j pl_un, ?_, by simpa using hu, rfl⟩
      simp [List.getD_eq_getElem?_getD, hj']
  · rintro ⟨v, h1, h2, h3⟩
    have hlt : q.1 < L.length := (List.getElem?_eq_some_iff.mp h1).1
    refine ⟨q.1, List.mem_range.mpr hlt, ?_⟩
    have hg : L.getD q.1 pl_un = v := by simp [List.getD_eq_getElem?_getD, h1]
    rw [hg, h2]
    simp [← h3]
theorem pl_LR.has {ad : Nat → Nat} {ls : Array Slot} {L : List Value} {nL : Nat} (h : pl_LR ad ls L nL) : lv_has ls nL (pl_al ad L) := by
  refine ⟨h.1, h.2.1, fun q hq => ?_⟩
  obtain ⟨v, h1, h2, h3⟩ := pl_al_mem.mp hq
  rw [h3]
  exact h.2.2 _ _ h1 h2
theorem pl_set_get {L : List Value} {i j : Nat} {v w : Value} (h : (pl_set L i v)[j]? = some w) (hu : pl_isU w = false) : (j = i ∧ w = v) ∨ (j ≠ i ∧ L[j]? = some w ∧ ¬ (j + 1 = i ∧ w.category = 2)) := by
  cases i with
  | zero =>
    unfold pl_set at h
    by_cases hj : j = 0
    · subst hj
      rw [List.getElem?_set] at h
      simp at h
      exact Or.inl ⟨rfl, h.2.symm⟩
    · rw [List.getElem?_set_ne (Ne.symm hj)] at h
      exact Or.inr ⟨hj, h, fun z => by omega⟩
  | succ i =>
    unfold pl_set at h
    simp only at h
    split at h
    · rename_i hc
      by_cases hj : j = i + 1
      · subst hj
        rw [List.getElem?_set_ne (by omega), List.getElem?_set] at h
        simp at h
        exact Or.inl ⟨rfl, h.2.symm⟩
      · by_cases hj2 : j = i
        · subst hj2
          rw [List.getElem?_set] at h
          simp at h
          rw [← h.2] at hu
          simp [pl_un, pl_isU] at hu
        · rw [List.getElem?_set_ne (Ne.symm hj2), List.getElem?_set_ne (Ne.symm hj)] at h
          exact Or.inr ⟨hj, h, fun z => hj2 (by omega)⟩
    · rename_i hc
      by_cases hj : j = i + 1
      · subst hj
        rw [List.getElem?_set] at h
        simp at h
        exact Or.inl ⟨rfl, h.2.symm⟩
      · rw [List.getElem?_set_ne (Ne.symm hj)] at h
        refine Or.inr ⟨hj, h, fun z => hc ?_⟩
        have hji : j = i := by omega
        subst hji
        rw [List.getD_eq_getElem?_getD, h]
        exact z.2
theorem pl_LR.set {ad : Nat → Nat} {ls' : Array Slot} {L : List Value} {nL i : Nat} {v : Value} (h : lv_has ls' nL ((i, pl_re ad v) :: (pl_al ad L).filter (fun q => !(q.1 == i) && !(q.1 + 1 == i && q.2.category == 2)))) : pl_LR ad ls' (pl_set L i v) nL := by
  refine ⟨h.1, h.2.1, fun j w hj hu => ?_⟩
  rcases pl_set_get hj hu with ⟨rfl, rfl⟩ | ⟨h1, h2, h3⟩
  · exact h.2.2 (j, pl_re ad w) List.mem_cons_self
  · refine h.2.2 (j, pl_re ad w) (List.mem_cons_of_mem _ (List.mem_filter.mpr ⟨pl_al_mem.mpr ⟨w, h2, hu, rfl⟩, ?_⟩))
    simp only [pl_re_cat]
    by_cases hji : j + 1 = i
    · have hc : ¬ w.category = 2 := fun z => h3 ⟨hji, z⟩
      simp [h1, hc]
    · simp [h1, hji]
theorem pl_LR.set2 {ad : Nat → Nat} {ls' : Array Slot} {L : List Value} {nL i : Nat} {v : Value} (h : lv_has ls' nL ((i, pl_re ad v) :: (pl_al ad L).filter (fun q => !(q.1 == i) && (!(q.1 == i + 1) && !(q.1 + 1 == i && q.2.category == 2))))) : pl_LR ad ls' (pl_set2 L i v) nL := by
  refine ⟨h.1, h.2.1, fun j w hj hu => ?_⟩
  unfold pl_set2 at hj
  by_cases hj1 : j = i + 1
  · subst hj1
    rw [List.getElem?_set] at hj
    simp at hj
    rw [← hj.2] at hu
    simp [pl_un, pl_isU] at hu
  · rw [List.getElem?_set_ne (Ne.symm hj1)] at hj
    rcases pl_set_get hj hu with ⟨rfl, rfl⟩ | ⟨h1, h2, h3⟩
    · exact h.2.2 (j, pl_re ad w) List.mem_cons_self
    · refine h.2.2 (j, pl_re ad w) (List.mem_cons_of_mem _ (List.mem_filter.mpr ⟨pl_al_mem.mpr ⟨w, h2, hu, rfl⟩, ?_⟩))
      simp only [pl_re_cat]
      by_cases hji : j + 1 = i
      · have hc : ¬ w.category = 2 := fun z => h3 ⟨hji, z⟩
        simp [h1, hj1, hc]
      · simp [h1, hj1, hji]
/-- the locals at a method's entry -/
def pl_fa (vs : List Value) : List Value := vs.flatMap (fun v => if v.category = 2 then [v, pl_un] else [v])
def pl_pad (vs : List Value) (n : Nat) : List Value := pl_fa vs ++ List.replicate (n - (pl_fa vs).length) pl_un
theorem pl_entry_mem (ad : Nat → Nat) : ∀ (vs : List Value) (k i : Nat) (v : Value), (pl_fa vs)[i]? = some v → pl_isU v = false → (k + i, pl_re ad v) ∈ lv_args k (vs.map (pl_re ad))
  | [], k, i, v, h, _ => by simp [pl_fa] at h
  | w :: vs, k, i, v, h, hu => by
    have e : pl_fa (w :: vs) = (if w.category = 2 then [w, pl_un] else [w]) ++ pl_fa vs := by simp [pl_fa]
    rw [e] at h
    show (k + i, pl_re ad v) ∈ (k, pl_re ad w) :: lv_args (if (pl_re ad w).category = 2 then k + 2 else k + 1) (vs.map (pl_re ad))
    rw [pl_re_cat]
    by_cases hc : w.category = 2
    · rw [if_pos hc] at h ⊢
      match i, h with
      | 0, h =>
        simp at h
        subst h
        simp
      | 1, h =>
        simp at h
        subst h
        simp [pl_un, pl_isU] at hu
      | j + 2, h =>
        have h' : (pl_fa vs)[j]? = some v := by simpa using h
        have h2 := pl_entry_mem ad vs (k + 2) j v h' hu
        rw [show k + (j + 2) = k + 2 + j by omega]
        exact List.mem_cons_of_mem _ h2
    · rw [if_neg hc] at h ⊢
      match i, h with
      | 0, h =>
        simp at h
        subst h
        simp
      | j + 1, h =>
        have h' : (pl_fa vs)[j]? = some v := by simpa using h
        have h2 := pl_entry_mem ad vs (k + 1) j v h' hu
        rw [show k + (j + 1) = k + 1 + j by omega]
        exact List.mem_cons_of_mem _ h2
theorem pl_fa_len (ad : Nat → Nat) (vs : List Value) : (lg_sl (vs.map (pl_re ad))).length = (pl_fa vs).length := by
  induction vs with
  | nil => rfl
  | cons w vs ih =>
    have e1 : lg_sl ((w :: vs).map (pl_re ad)) = (if (pl_re ad w).category = 2 then [.val (pl_re ad w), .second] else [.val (pl_re ad w)]) ++ lg_sl (vs.map (pl_re ad)) := by simp [lg_sl]
    have e2 : pl_fa (w :: vs) = (if w.category = 2 then [w, pl_un] else [w]) ++ pl_fa vs := by simp [pl_fa]
    rw [e1, e2, List.length_append, List.length_append, ih, pl_re_cat]
    by_cases hc : w.category = 2
    · simp [hc]
    · simp [hc]
theorem pl_entry (ad : Nat → Nat) (vs : List Value) {n : Nat} (h : (pl_fa vs).length ≤ n) : pl_LR ad ((lg_sl (vs.map (pl_re ad)) ++ List.replicate (n - (lg_sl (vs.map (pl_re ad))).length) Slot.unset).toArray) (pl_pad vs n) n := by
  have h0 := lv_entry (vs.map (pl_re ad)) (n := n) (by rw [pl_fa_len]; exact h)
  refine ⟨h0.1, h0.2.1, fun i v hi hu => ?_⟩
  unfold pl_pad at hi
  by_cases hlt : i < (pl_fa vs).length
  · rw [List.getElem?_append_left hlt] at hi
    have := h0.2.2 _ (pl_entry_mem ad vs 0 i v hi hu)
    simpa using this
  · rw [List.getElem?_append_right (by omega), List.getElem?_replicate] at hi
    split at hi
    · cases hi
      simp [pl_un, pl_isU] at hu
    · cases hi
end
section
/-! 015 What the tables say of the kinds of cell -/
def pl_KK (G : pl_G) (U : State) : Prop := va_K G.1 pl_cl (pl_tys G) U ∧ (∀ q, q < 4 → U.isArrayOf (G.2.2.1 q) .int) ∧ ∀ w ∈ pl_N, va_Nw w U
theorem pl_KK.moved {G : pl_G} {s U : State} (h : pl_KK G s) (hW : s.WarmedH U.vm) : pl_KK G U :=
  ⟨va_K.moved hW.alike h.1, fun q hq => State.isArrayOf_alike hW.alike (h.2.1 q hq), fun w hw => pl_nest_moved (pl_N_nest w hw) hW (h.2.2 w hw)⟩
theorem pl_KK.same {G : pl_G} {u U : State} (hv : u.vm = U.vm) (h : pl_KK G u) : pl_KK G U := by
  have ha : u.vm.Alike U.vm := by rw [hv]; exact Vm.Alike.refl _
  exact ⟨va_K.moved ha h.1, fun q hq => State.isArrayOf_alike ha (h.2.1 q hq), fun w hw => pl_nest_same (pl_N_nest w hw) hv (h.2.2 w hw)⟩
theorem pl_lays_0 : u_ws "PageLayouter" (pl_F 0) 4 = ([205, 207, 209, 211] : List Nat).filterMap (fun i => lw_tbl[i]?) := by decide +kernel
theorem pl_layg_0 : (u_ws "PageLayouter" (pl_F 0) 4).all goodWord = true := by decide +kernel
theorem pl_lays_1 : u_ws "PageLayouter$Box" (pl_F 1) 20 = ([139, 141, 143, 145, 147, 149, 151, 153, 155, 157, 159, 161, 163, 165, 167, 169, 171, 173, 175, 177] : List Nat).filterMap (fun i => lw_tbl[i]?) := by decide +kernel
theorem pl_layg_1 : (u_ws "PageLayouter$Box" (pl_F 1) 20).all goodWord = true := by decide +kernel
theorem pl_lays_2 : u_ws "PageLayouter$Columns" (pl_F 2) 4 = ([192, 194, 196, 198] : List Nat).filterMap (fun i => lw_tbl[i]?) := by decide +kernel
theorem pl_layg_2 : (u_ws "PageLayouter$Columns" (pl_F 2) 4).all goodWord = true := by decide +kernel
theorem pl_lays_3 : u_ws "PageLayouterModel" (pl_F 3) 26 = ([727, 729, 739, 731, 733, 735, 737, 741, 743, 745, 747, 749, 751, 753, 755, 757, 759, 761, 763, 765, 767, 769, 771, 773, 775, 777] : List Nat).filterMap (fun i => lw_tbl[i]?) := by decide +kernel
theorem pl_layg_3 : (u_ws "PageLayouterModel" (pl_F 3) 26).all goodWord = true := by decide +kernel
theorem pl_lays_of {ws : List Cond} {ps : List Nat} (h : ws = ps.filterMap (fun i => lw_tbl[i]?)) (hg : ws.all goodWord = true) : ∀ w ∈ ws, w ∈ pl_T := by
  intro w hw
  have h1 := List.all_eq_true.mp hg w hw
  rw [h] at hw
  obtain ⟨i, -, hi⟩ := List.mem_filterMap.mp hw
  exact pl_mem i hi h1
theorem pl_lays_in : ∀ (c : Nat) (r : vw_C), pl_cl[c]? = some r → ∀ w ∈ u_ws r.1 r.2.1 r.2.2, w ∈ pl_T := by
  intro c r h
  match c, h with
  | 0, h => cases h; exact pl_lays_of pl_lays_0 pl_layg_0
  | 1, h => cases h; exact pl_lays_of pl_lays_1 pl_layg_1
  | 2, h => cases h; exact pl_lays_of pl_lays_2 pl_layg_2
  | 3, h => cases h; exact pl_lays_of pl_lays_3 pl_layg_3
  | n + 4, h => simp [pl_cl] at h
/-- the static fields that the methods read: three arrays of the system's, two of Throwable's -/
def pl_Zs (G : pl_G) (A : Nat → Prop) (U : State) (H : Heap) : Prop :=
  va_Z "PageLayouter" "LOWEST_VALUES" "[I" (.ref (G.2.2.2 1)) A U H ∧ va_Z "PageLayouter" "HIGHEST_VALUES" "[I" (.ref (G.2.2.2 2)) A U H ∧ va_Z "PageLayouter" "FIRST_VALUES" "[I" (.ref (G.2.2.2 3)) A U H ∧
  vx_Zq Bundle.tN "UNASSIGNED_STACK" Bundle.steD A U H ∧ vx_Zq Bundle.tN "SUPPRESSED_SENTINEL" Bundle.listD A U H
theorem pl_Zs.moved {G : pl_G} {A : Nat → Prop} {u U : State} {H : Heap} (hv : u.vm.Alike U.vm) (h : pl_Zs G A u H) : pl_Zs G A U H := ⟨h.1.moved hv, h.2.1.moved hv, h.2.2.1.moved hv, h.2.2.2.1.moved hv, h.2.2.2.2.moved hv⟩
theorem pl_Zs.kept {G : pl_G} {A : Nat → Prop} {U : State} {H H1 : Heap} (h : pl_Zs G A U H) (hq : ∀ a : Nat, a < H.size → ¬ A a → H1[a]? = H[a]?) : pl_Zs G A U H1 := ⟨h.1.kept hq, h.2.1.kept hq, h.2.2.1.kept hq, h.2.2.2.1.kept hq, h.2.2.2.2.kept hq⟩
theorem pl_Zs.narrow {G : pl_G} {A B : Nat → Prop} {U : State} {H : Heap} (h : pl_Zs G A U H) (hAB : ∀ q, B q → A q) : pl_Zs G B U H := ⟨h.1.narrow hAB, h.2.1.narrow hAB, h.2.2.1.narrow hAB, h.2.2.2.1.narrow hAB, h.2.2.2.2.narrow hAB⟩
end
section
/-! 02 The judgement pl_J and a row for each instruction -/
abbrev pl_X := Program × Launch × Env × Room × State × MethodId × Array Value × List Frame × Method × Code × (State → Prop)
abbrev pl_xR (X : pl_X) : Room := X.2.2.2.1
abbrev pl_xs (X : pl_X) : State := X.2.2.2.2.1
abbrev pl_xm (X : pl_X) : MethodId := X.2.2.2.2.2.1
abbrev pl_xa (X : pl_X) : Array Value := X.2.2.2.2.2.2.1
abbrev pl_xb (X : pl_X) : List Frame := X.2.2.2.2.2.2.2.1
abbrev pl_xt (X : pl_X) : Method := X.2.2.2.2.2.2.2.2.1
abbrev pl_xc (X : pl_X) : Code := X.2.2.2.2.2.2.2.2.2.1
abbrev pl_xQ (X : pl_X) : State → Prop := X.2.2.2.2.2.2.2.2.2.2
abbrev pl_WW (X : pl_X) (H : Heap) (locs : List Loc) (cells slots : Nat) (g : JFrame) : Prop :=
  W X.1 X.2.1 X.2.2.1 (pl_xR X) (pl_xs X) (pl_xm X) (pl_xa X) (pl_xb X) (pl_xt X) (pl_xc X) H locs cells slots (pl_xQ X) g
abbrev pl_Y : Type := pl_G × (Nat → Nat) × (Nat → Prop) × Bool × (Nat → Prop) × Nat × Nat × Nat × Nat
abbrev pl_fr (Y : pl_Y) : Nat → Prop := Y.2.2.2.2.1
abbrev pl_c0 (Y : pl_Y) : Nat := Y.2.2.2.2.2.1
abbrev pl_s0 (Y : pl_Y) : Nat := Y.2.2.2.2.2.2.1
abbrev pl_mc (Y : pl_Y) : Nat := Y.2.2.2.2.2.2.2.1
abbrev pl_ms (Y : pl_Y) : Nat := Y.2.2.2.2.2.2.2.2
def pl_Agr (Y : pl_Y) (ad : Nat → Nat) : Prop := (Y.2.2.2.1 = false → ad = Y.2.1) ∧ ∀ q, Y.2.2.1 q → ad q = Y.2.1 q
def pl_In (X : pl_X) (Y : pl_Y) (σ : pl_S) (L : List Value) (ad : Nat → Nat) (H : Heap) (locs : List Loc) (ls : Array Slot) : Prop :=
  pl_Agr Y ad ∧ pl_Rep Y.1 ad σ H ∧ ((pl_xs X).heap.size ≤ H.size ∧ ∀ a : Nat, a < (pl_xs X).heap.size → ¬ pl_fr Y a → H[a]? = (pl_xs X).heap[a]?) ∧ (∀ q ∈ locs, pl_fr Y q.base) ∧ (∀ q, pl_live σ q → (σ.1 q).1 ≠ 9 → pl_fr Y (ad q)) ∧
  pl_LR ad ls L (pl_xc X).maxLocals ∧ (∀ q, Y.2.2.1 q → pl_live σ q) ∧ (pl_c0 Y ≤ σ.2.2.1 ∧ σ.2.2.1 ≤ pl_c0 Y + pl_mc Y ∧ pl_s0 Y ≤ σ.2.2.2 ∧ σ.2.2.2 ≤ pl_s0 Y + pl_ms Y)
/-- every reference among the values is to a cell of the store -/
def pl_lvv (kd : Nat → Nat × Nat) : Value → Prop
  | .ref q => (kd q).1 ≠ 0
  | _ => True
def pl_lvl (kd : Nat → Nat × Nat) : List Value → Prop
  | [] => True
  | v :: l => pl_lvv kd v ∧ pl_lvl kd l
theorem pl_lv_iff {kd : Nat → Nat × Nat} {l : List Value} : pl_lvl kd l ↔ ∀ v ∈ l, pl_lvv kd v := by
  induction l with
  | nil => simp [pl_lvl]
  | cons v l ih => simp [pl_lvl, ih]
theorem pl_lv_at {kd : Nat → Nat × Nat} {l : List Value} (h : pl_lvl kd l) {i : Nat} {v : Value} (hi : l[i]? = some v) : pl_lvv kd v := pl_lv_iff.mp h v (List.mem_of_getElem? hi)
theorem pl_lv_set0 {kd : Nat → Nat × Nat} {l : List Value} (h : pl_lvl kd l) {v : Value} (hv : pl_lvv kd v) (i : Nat) : pl_lvl kd (l.set i v) := pl_lv_iff.mpr (fun w hw => by
  rcases List.mem_or_eq_of_mem_set hw with h1 | h1
  · exact pl_lv_iff.mp h w h1
  · rw [h1]; exact hv)
theorem pl_lv_un {kd : Nat → Nat × Nat} : pl_lvv kd pl_un := trivial
theorem pl_lv_set {kd : Nat → Nat × Nat} {l : List Value} (h : pl_lvl kd l) {v : Value} (hv : pl_lvv kd v) {i : Nat} : pl_lvl kd (pl_set l i v) := by
  unfold pl_set
  cases i with
  | zero => exact pl_lv_set0 h hv 0
  | succ j =>
    simp only
    split
    · exact pl_lv_set0 (pl_lv_set0 h hv _) pl_lv_un _
    · exact pl_lv_set0 h hv _
theorem pl_lv_set2 {kd : Nat → Nat × Nat} {l : List Value} (h : pl_lvl kd l) {v : Value} (hv : pl_lvv kd v) {i : Nat} : pl_lvl kd (pl_set2 l i v) := pl_lv_set0 (pl_lv_set h hv) pl_lv_un _
theorem pl_lv_mono {kd kd' : Nat → Nat × Nat} (hk : ∀ q, (kd q).1 ≠ 0 → (kd' q).1 ≠ 0) {l : List Value} (h : pl_lvl kd l) : pl_lvl kd' l := pl_lv_iff.mpr (fun v hv => by
  have h1 := pl_lv_iff.mp h v hv
  cases v with
  | ref q => exact hk q h1
  | _ => trivial)
theorem pl_lv_app {kd : Nat → Nat × Nat} {a b : List Value} : pl_lvl kd (a ++ b) ↔ pl_lvl kd a ∧ pl_lvl kd b := by
  rw [pl_lv_iff, pl_lv_iff, pl_lv_iff]
  constructor
  · exact fun h => ⟨fun v hv => h v (List.mem_append_left _ hv), fun v hv => h v (List.mem_append_right _ hv)⟩
  · exact fun h v hv => (List.mem_append.mp hv).elim (h.1 v) (h.2 v)
theorem pl_lv_rev {kd : Nat → Nat × Nat} {a : List Value} : pl_lvl kd a.reverse ↔ pl_lvl kd a := by
  rw [pl_lv_iff, pl_lv_iff]
  exact ⟨fun h v hv => h v (List.mem_reverse.mpr hv), fun h v hv => h v (List.mem_reverse.mp hv)⟩
def pl_J (X : pl_X) (Y : pl_Y) (σ : pl_S) (pc : Nat) (L st : List Value) : Prop :=
  ∀ (ad : Nat → Nat) (H : Heap) (locs : List Loc) (ls : Array Slot), pl_In X Y σ L ad H locs ls → pl_lvl σ.1 L → pl_lvl σ.1 st →
    pl_WW X H locs (σ.2.2.1 - pl_c0 Y) (σ.2.2.2 - pl_s0 Y) (F0 (pl_xm X) pc ls (st.map (pl_re ad)))
/-- what a method's rows stand on: the machine, its bytes, whose it is, the words of the tables, the kinds of cell, its room -/
def pl_Fx (X : pl_X) (Y : pl_Y) (own : String) (cc : ByteArray) : Prop :=
  X.1.tables.exec = Jvm.exec ∧ (pl_xc X).code = cc ∧ (pl_xs X).vm.findClass own = some (pl_xm X).cls ∧ (∀ w ∈ pl_T, w.before (pl_xa X) (pl_xs X) = true) ∧
  pl_KK Y.1 (pl_xs X) ∧ (pl_xt X).locks = false ∧ (pl_xR X).cells = pl_mc Y ∧ (pl_xR X).slots = pl_ms Y ∧ (∀ a, (pl_xs X).heap.size ≤ a → pl_fr Y a) ∧ pl_Zs Y.1 (pl_fr Y) (pl_xs X) (pl_xs X).heap
section Rows
variable {X : pl_X} {Y : pl_Y} {own : String} {cc : ByteArray} {σ : pl_S} {pc : Nat} {L st : List Value}
theorem pl_In.get {ad : Nat → Nat} {H : Heap} {locs : List Loc} {ls : Array Slot} (h : pl_In X Y σ L ad H locs ls) {i : Nat} {v : Value} (hi : L[i]? = some v) (hu : pl_isU v = false) : ls[i]? = some (.val (pl_re ad v)) := h.2.2.2.2.2.1.2.2 i v hi hu
theorem pl_In.S {ad : Nat → Nat} {H : Heap} {locs : List Loc} {ls : Array Slot} (h : pl_In X Y σ L ad H locs ls) : va_S (pl_fr Y) (pl_xs X).heap H locs := ⟨h.2.2.1.1, h.2.2.1.2, h.2.2.2.1⟩
theorem pl_In.setL {ad : Nat → Nat} {H : Heap} {locs : List Loc} {ls ls' : Array Slot} {L' : List Value} (h : pl_In X Y σ L ad H locs ls) (h' : pl_LR ad ls' L' (pl_xc X).maxLocals) : pl_In X Y σ L' ad H locs ls' :=
  ⟨h.1, h.2.1, h.2.2.1, h.2.2.2.1, h.2.2.2.2.1, h', h.2.2.2.2.2.2⟩
-- constants
theorem j_iconst (F : pl_Fx X Y own cc) {n : Int} {v : Int32} (hd : decode cc pc = .ok (.iconst n, 1)) (hv : Int32.ofInt n = v) (k : pl_J X Y σ (pc + 1) L (.int v :: st)) : pl_J X Y σ pc L st :=
  fun ad H locs ls h hL hs => lv_iconst F.1 F.2.1 hd hv (k ad H locs ls h hL ⟨trivial, hs⟩)
theorem j_bipush (F : pl_Fx X Y own cc) {n : Int} {v : Int32} (hd : decode cc pc = .ok (.bipush n, 2)) (hv : (Int8.ofInt n).toInt32 = v) (k : pl_J X Y σ (pc + 2) L (.int v :: st)) : pl_J X Y σ pc L st :=
  fun ad H locs ls h hL hs => lv_bipush F.1 F.2.1 hd hv (k ad H locs ls h hL ⟨trivial, hs⟩)
theorem j_sipush (F : pl_Fx X Y own cc) {n : Int} {v : Int32} (hd : decode cc pc = .ok (.sipush n, 3)) (hv : (Int16.ofInt n).toInt32 = v) (k : pl_J X Y σ (pc + 3) L (.int v :: st)) : pl_J X Y σ pc L st :=
  fun ad H locs ls h hL hs => lv_sipush F.1 F.2.1 hd hv (k ad H locs ls h hL ⟨trivial, hs⟩)
theorem j_lconst (F : pl_Fx X Y own cc) {n : Fin 2} {v : Int64} (hd : decode cc pc = .ok (.lconst n, 1)) (hv : Int64.ofNat (n : Nat) = v) (k : pl_J X Y σ (pc + 1) L (.long v :: st)) : pl_J X Y σ pc L st :=
  fun ad H locs ls h hL hs => lv_lconst F.1 F.2.1 hd hv (k ad H locs ls h hL ⟨trivial, hs⟩)
theorem j_null (F : pl_Fx X Y own cc) (hd : decode cc pc = .ok (.aconst_null, 1)) (k : pl_J X Y σ (pc + 1) L (.null :: st)) : pl_J X Y σ pc L st :=
  fun ad H locs ls h hL hs => lv_null F.1 F.2.1 hd (k ad H locs ls h hL ⟨trivial, hs⟩)
theorem j_ldc (F : pl_Fx X Y own cc) {idx : Nat} {v : Int32} (hw : Cond.constant own idx v ∈ pl_T) (hd : decode cc pc = .ok (.ldc idx, 2)) (k : pl_J X Y σ (pc + 2) L (.int v :: st)) : pl_J X Y σ pc L st :=
  fun ad H locs ls h hL hs => lv_ldc F.1 F.2.1 F.2.2.1 (F.2.2.2.1 _ hw) hd (k ad H locs ls h hL ⟨trivial, hs⟩)
-- loads
theorem j_iload_n (F : pl_Fx X Y own cc) {k : Fin 4} {i : Nat} {x : Int32} (hd : decode cc pc = .ok (.iload_n k, 1)) (hi : (k : Nat) = i) (hl : L[i]? = some (.int x)) (kk : pl_J X Y σ (pc + 1) L (.int x :: st)) : pl_J X Y σ pc L st :=
  fun ad H locs ls h hL hs => lv_iload_n F.1 F.2.1 hd hi (h.get hl rfl) (kk ad H locs ls h hL ⟨trivial, hs⟩)
theorem j_iload (F : pl_Fx X Y own cc) {i : Nat} {x : Int32} (hd : decode cc pc = .ok (.iload i, 2)) (hl : L[i]? = some (.int x)) (kk : pl_J X Y σ (pc + 2) L (.int x :: st)) : pl_J X Y σ pc L st :=
  fun ad H locs ls h hL hs => lv_iload F.1 F.2.1 hd (h.get hl rfl) (kk ad H locs ls h hL ⟨trivial, hs⟩)
theorem j_lload_n (F : pl_Fx X Y own cc) {k : Fin 4} {i : Nat} {x : Int64} (hd : decode cc pc = .ok (.lload_n k, 1)) (hi : (k : Nat) = i) (hl : L[i]? = some (.long x)) (kk : pl_J X Y σ (pc + 1) L (.long x :: st)) : pl_J X Y σ pc L st :=
  fun ad H locs ls h hL hs => lv_lload_n F.1 F.2.1 hd hi (h.get hl rfl) (kk ad H locs ls h hL ⟨trivial, hs⟩)
theorem j_lload (F : pl_Fx X Y own cc) {i : Nat} {x : Int64} (hd : decode cc pc = .ok (.lload i, 2)) (hl : L[i]? = some (.long x)) (kk : pl_J X Y σ (pc + 2) L (.long x :: st)) : pl_J X Y σ pc L st :=
  fun ad H locs ls h hL hs => lv_lload F.1 F.2.1 hd (h.get hl rfl) (kk ad H locs ls h hL ⟨trivial, hs⟩)
theorem j_aload_n (F : pl_Fx X Y own cc) {k : Fin 4} {i : Nat} {v : Value} (hd : decode cc pc = .ok (.aload_n k, 1)) (hi : (k : Nat) = i) (hl : L[i]? = some v) (hv : v.isRef = true) (kk : pl_J X Y σ (pc + 1) L (v :: st)) : pl_J X Y σ pc L st := by
  intro ad H locs ls h hL hs
  cases v with
  | ref q => exact lv_aload_n F.1 F.2.1 hd hi (h.get hl rfl) (kk ad H locs ls h hL ⟨pl_lv_at hL hl, hs⟩)
  | null => exact lv_aload_nN F.1 F.2.1 hd hi (h.get hl rfl) (kk ad H locs ls h hL ⟨pl_lv_at hL hl, hs⟩)
  | _ => simp [Value.isRef] at hv
theorem j_aload (F : pl_Fx X Y own cc) {i : Nat} {v : Value} (hd : decode cc pc = .ok (.aload i, 2)) (hl : L[i]? = some v) (hv : v.isRef = true) (kk : pl_J X Y σ (pc + 2) L (v :: st)) : pl_J X Y σ pc L st := by
  intro ad H locs ls h hL hs
  cases v with
  | ref q => exact lv_aload F.1 F.2.1 hd (h.get hl rfl) (kk ad H locs ls h hL ⟨pl_lv_at hL hl, hs⟩)
  | null => exact lv_aloadN F.1 F.2.1 hd (h.get hl rfl) (kk ad H locs ls h hL ⟨pl_lv_at hL hl, hs⟩)
  | _ => simp [Value.isRef] at hv
-- stores
theorem j_istore_n (F : pl_Fx X Y own cc) {k : Fin 4} {i : Nat} {x : Int32} (hd : decode cc pc = .ok (.istore_n k, 1)) (hi : (k : Nat) = i) (hn : i < (pl_xc X).maxLocals) (kk : pl_J X Y σ (pc + 1) (pl_set L i (.int x)) st) : pl_J X Y σ pc L (.int x :: st) :=
  fun ad H locs ls h hL hs => lv_istore_n F.1 F.2.1 hd hi h.2.2.2.2.2.1.has hn rfl (fun ls' h' => kk ad H locs ls' (h.setL (pl_LR.set (v := .int x) h')) (pl_lv_set hL hs.1) hs.2)
theorem j_istore (F : pl_Fx X Y own cc) {i : Nat} {x : Int32} (hd : decode cc pc = .ok (.istore i, 2)) (hn : i < (pl_xc X).maxLocals) (kk : pl_J X Y σ (pc + 2) (pl_set L i (.int x)) st) : pl_J X Y σ pc L (.int x :: st) :=
  fun ad H locs ls h hL hs => lv_istore F.1 F.2.1 hd h.2.2.2.2.2.1.has hn rfl (fun ls' h' => kk ad H locs ls' (h.setL (pl_LR.set (v := .int x) h')) (pl_lv_set hL hs.1) hs.2)
theorem j_lstore_n (F : pl_Fx X Y own cc) {k : Fin 4} {i : Nat} {x : Int64} (hd : decode cc pc = .ok (.lstore_n k, 1)) (hi : (k : Nat) = i) (hn : i + 1 < (pl_xc X).maxLocals) (kk : pl_J X Y σ (pc + 1) (pl_set2 L i (.long x)) st) : pl_J X Y σ pc L (.long x :: st) :=
  fun ad H locs ls h hL hs => lv_lstore_n F.1 F.2.1 hd hi h.2.2.2.2.2.1.has hn rfl (fun ls' h' => kk ad H locs ls' (h.setL (pl_LR.set2 (v := .long x) h')) (pl_lv_set2 hL hs.1) hs.2)
theorem j_lstore (F : pl_Fx X Y own cc) {i : Nat} {x : Int64} (hd : decode cc pc = .ok (.lstore i, 2)) (hn : i + 1 < (pl_xc X).maxLocals) (kk : pl_J X Y σ (pc + 2) (pl_set2 L i (.long x)) st) : pl_J X Y σ pc L (.long x :: st) :=
  fun ad H locs ls h hL hs => lv_lstore F.1 F.2.1 hd h.2.2.2.2.2.1.has hn rfl (fun ls' h' => kk ad H locs ls' (h.setL (pl_LR.set2 (v := .long x) h')) (pl_lv_set2 hL hs.1) hs.2)
theorem j_astore_n (F : pl_Fx X Y own cc) {k : Fin 4} {i : Nat} {v : Value} (hd : decode cc pc = .ok (.astore_n k, 1)) (hi : (k : Nat) = i) (hn : i < (pl_xc X).maxLocals) (hv : v.isRef = true) (kk : pl_J X Y σ (pc + 1) (pl_set L i v) st) : pl_J X Y σ pc L (v :: st) := by
  intro ad H locs ls h hL hs
  cases v with
  | ref q => exact lv_astore_n F.1 F.2.1 hd hi h.2.2.2.2.2.1.has hn rfl (fun ls' h' => kk ad H locs ls' (h.setL (pl_LR.set (v := .ref q) h')) (pl_lv_set hL hs.1) hs.2)
  | null => exact lv_astore_nN F.1 F.2.1 hd hi h.2.2.2.2.2.1.has hn rfl (fun ls' h' => kk ad H locs ls' (h.setL (pl_LR.set (v := .null) h')) (pl_lv_set hL hs.1) hs.2)
  | _ => simp [Value.isRef] at hv
theorem j_astore (F : pl_Fx X Y own cc) {i : Nat} {v : Value} (hd : decode cc pc = .ok (.astore i, 2)) (hn : i < (pl_xc X).maxLocals) (hv : v.isRef = true) (kk : pl_J X Y σ (pc + 2) (pl_set L i v) st) : pl_J X Y σ pc L (v :: st) := by
  intro ad H locs ls h hL hs
  cases v with
  | ref q => exact lv_astore F.1 F.2.1 hd h.2.2.2.2.2.1.has hn rfl (fun ls' h' => kk ad H locs ls' (h.setL (pl_LR.set (v := .ref q) h')) (pl_lv_set hL hs.1) hs.2)
  | null => exact lv_astoreN F.1 F.2.1 hd h.2.2.2.2.2.1.has hn rfl (fun ls' h' => kk ad H locs ls' (h.setL (pl_LR.set (v := .null) h')) (pl_lv_set hL hs.1) hs.2)
  | _ => simp [Value.isRef] at hv
theorem j_iinc (F : pl_Fx X Y own cc) {i : Nat} {n : Int} {x v : Int32} (hd : decode cc pc = .ok (.iinc i n, 3)) (hl : L[i]? = some (.int x)) (hv : x + Int32.ofInt n = v) (hn : i < (pl_xc X).maxLocals) (kk : pl_J X Y σ (pc + 3) (pl_set L i (.int v)) st) : pl_J X Y σ pc L st := by
  intro ad H locs ls h hL hs
  have hm : (i, Value.int x) ∈ pl_al ad L := pl_al_mem.mpr ⟨.int x, hl, rfl, rfl⟩
  obtain ⟨k, hk⟩ := List.getElem?_of_mem hm
  exact lv_iinc F.1 F.2.1 hd h.2.2.2.2.2.1.has hk hv hn rfl (fun ls' h' => kk ad H locs ls' (h.setL (pl_LR.set (v := .int v) h')) (pl_lv_set (v := .int v) hL trivial) hs)
-- arithmetic
theorem j_iadd (F : pl_Fx X Y own cc) {x y : Int32} (hd : decode cc pc = .ok (.iadd, 1)) (k : pl_J X Y σ (pc + 1) L (.int (x + y) :: st)) : pl_J X Y σ pc L (.int y :: .int x :: st) :=
  fun ad H locs ls h hL hs => lv_iadd F.1 F.2.1 hd (k ad H locs ls h hL ⟨trivial, hs.2.2⟩)
theorem j_isub (F : pl_Fx X Y own cc) {x y : Int32} (hd : decode cc pc = .ok (.isub, 1)) (k : pl_J X Y σ (pc + 1) L (.int (x - y) :: st)) : pl_J X Y σ pc L (.int y :: .int x :: st) :=
  fun ad H locs ls h hL hs => lv_isub F.1 F.2.1 hd (k ad H locs ls h hL ⟨trivial, hs.2.2⟩)
theorem j_imul (F : pl_Fx X Y own cc) {x y : Int32} (hd : decode cc pc = .ok (.imul, 1)) (k : pl_J X Y σ (pc + 1) L (.int (x * y) :: st)) : pl_J X Y σ pc L (.int y :: .int x :: st) :=
  fun ad H locs ls h hL hs => lv_imul F.1 F.2.1 hd (k ad H locs ls h hL ⟨trivial, hs.2.2⟩)
theorem j_iand (F : pl_Fx X Y own cc) {x y : Int32} (hd : decode cc pc = .ok (.iand, 1)) (k : pl_J X Y σ (pc + 1) L (.int (x &&& y) :: st)) : pl_J X Y σ pc L (.int y :: .int x :: st) :=
  fun ad H locs ls h hL hs => lv_iand F.1 F.2.1 hd (k ad H locs ls h hL ⟨trivial, hs.2.2⟩)
theorem j_idiv (F : pl_Fx X Y own cc) {x y : Int32} (hd : decode cc pc = .ok (.idiv, 1)) (hne : ¬ y = 0) (k : pl_J X Y σ (pc + 1) L (.int (x / y) :: st)) : pl_J X Y σ pc L (.int y :: .int x :: st) :=
  fun ad H locs ls h hL hs => lv_idiv F.1 F.2.1 hd hne (k ad H locs ls h hL ⟨trivial, hs.2.2⟩)
theorem j_ineg (F : pl_Fx X Y own cc) {x : Int32} (hd : decode cc pc = .ok (.ineg, 1)) (k : pl_J X Y σ (pc + 1) L (.int (-x) :: st)) : pl_J X Y σ pc L (.int x :: st) :=
  fun ad H locs ls h hL hs => lv_ineg F.1 F.2.1 hd (k ad H locs ls h hL ⟨trivial, hs.2⟩)
theorem j_ladd (F : pl_Fx X Y own cc) {x y : Int64} (hd : decode cc pc = .ok (.ladd, 1)) (k : pl_J X Y σ (pc + 1) L (.long (x + y) :: st)) : pl_J X Y σ pc L (.long y :: .long x :: st) :=
  fun ad H locs ls h hL hs => lv_ladd F.1 F.2.1 hd (k ad H locs ls h hL ⟨trivial, hs.2.2⟩)
theorem j_lsub (F : pl_Fx X Y own cc) {x y : Int64} (hd : decode cc pc = .ok (.lsub, 1)) (k : pl_J X Y σ (pc + 1) L (.long (x - y) :: st)) : pl_J X Y σ pc L (.long y :: .long x :: st) :=
  fun ad H locs ls h hL hs => lv_lsub F.1 F.2.1 hd (k ad H locs ls h hL ⟨trivial, hs.2.2⟩)
theorem j_lmul (F : pl_Fx X Y own cc) {x y : Int64} (hd : decode cc pc = .ok (.lmul, 1)) (k : pl_J X Y σ (pc + 1) L (.long (x * y) :: st)) : pl_J X Y σ pc L (.long y :: .long x :: st) :=
  fun ad H locs ls h hL hs => lv_lmul F.1 F.2.1 hd (k ad H locs ls h hL ⟨trivial, hs.2.2⟩)
theorem j_ldiv (F : pl_Fx X Y own cc) {x y : Int64} (hd : decode cc pc = .ok (.ldiv, 1)) (hne : ¬ y = 0) (k : pl_J X Y σ (pc + 1) L (.long (x / y) :: st)) : pl_J X Y σ pc L (.long y :: .long x :: st) :=
  fun ad H locs ls h hL hs => lv_ldiv F.1 F.2.1 hd hne (k ad H locs ls h hL ⟨trivial, hs.2.2⟩)
theorem j_lneg (F : pl_Fx X Y own cc) {x : Int64} (hd : decode cc pc = .ok (.lneg, 1)) (k : pl_J X Y σ (pc + 1) L (.long (-x) :: st)) : pl_J X Y σ pc L (.long x :: st) :=
  fun ad H locs ls h hL hs => lv_lneg F.1 F.2.1 hd (k ad H locs ls h hL ⟨trivial, hs.2⟩)
theorem j_lcmp (F : pl_Fx X Y own cc) {x y : Int64} (hd : decode cc pc = .ok (.lcmp, 1)) (k : pl_J X Y σ (pc + 1) L (.int (lg_cmp x y) :: st)) : pl_J X Y σ pc L (.long y :: .long x :: st) :=
  fun ad H locs ls h hL hs => W.lcmp F.1 F.2.1 hd (k ad H locs ls h hL ⟨trivial, hs.2.2⟩)
theorem j_i2l (F : pl_Fx X Y own cc) {x : Int32} (hd : decode cc pc = .ok (.i2l, 1)) (k : pl_J X Y σ (pc + 1) L (.long x.toInt64 :: st)) : pl_J X Y σ pc L (.int x :: st) :=
  fun ad H locs ls h hL hs => lv_i2l F.1 F.2.1 hd rfl (k ad H locs ls h hL ⟨trivial, hs.2⟩)
theorem j_l2i (F : pl_Fx X Y own cc) {x : Int64} (hd : decode cc pc = .ok (.l2i, 1)) (k : pl_J X Y σ (pc + 1) L (.int x.toInt32 :: st)) : pl_J X Y σ pc L (.long x :: st) :=
  fun ad H locs ls h hL hs => lv_l2i F.1 F.2.1 hd rfl (k ad H locs ls h hL ⟨trivial, hs.2⟩)
-- the stack
theorem j_dup (F : pl_Fx X Y own cc) {v : Value} (hd : decode cc pc = .ok (.dup, 1)) (hv : v.category = 1) (k : pl_J X Y σ (pc + 1) L (v :: v :: st)) : pl_J X Y σ pc L (v :: st) :=
  fun ad H locs ls h hL hs => lv_dup F.1 F.2.1 hd (by rw [pl_re_cat]; exact hv) (k ad H locs ls h hL ⟨hs.1, hs⟩)
theorem j_pop (F : pl_Fx X Y own cc) {v : Value} (hd : decode cc pc = .ok (.pop, 1)) (hv : v.category = 1) (k : pl_J X Y σ (pc + 1) L st) : pl_J X Y σ pc L (v :: st) :=
  fun ad H locs ls h hL hs => lv_pop F.1 F.2.1 hd (by rw [pl_re_cat]; exact hv) (k ad H locs ls h hL hs.2)
theorem j_dup_x1 (F : pl_Fx X Y own cc) {v w : Value} (hd : decode cc pc = .ok (.dup_x1, 1)) (hv : v.category = 1) (hw : w.category = 1) (k : pl_J X Y σ (pc + 1) L (v :: w :: v :: st)) : pl_J X Y σ pc L (v :: w :: st) :=
  fun ad H locs ls h hL hs => lv_dup_x1 F.1 F.2.1 hd (by rw [pl_re_cat]; exact hv) (by rw [pl_re_cat]; exact hw) (k ad H locs ls h hL ⟨hs.1, hs.2.1, hs.1, hs.2.2⟩)
theorem j_dup2 (F : pl_Fx X Y own cc) {v w : Value} (hd : decode cc pc = .ok (.dup2, 1)) (hv : v.category = 1) (hw : w.category = 1) (k : pl_J X Y σ (pc + 1) L (v :: w :: v :: w :: st)) : pl_J X Y σ pc L (v :: w :: st) :=
  fun ad H locs ls h hL hs => lv_dup2_11 F.1 F.2.1 hd (by rw [pl_re_cat]; exact hv) (by rw [pl_re_cat]; exact hw) (k ad H locs ls h hL ⟨hs.1, hs.2.1, hs⟩)
-- jumps
theorem j_goto (F : pl_Fx X Y own cc) {off : Int} {tgt : Nat} (hd : decode cc pc = .ok (.goto off, 3)) (ht : (pc : Int) + off = (tgt : Int)) (k : pl_J X Y σ tgt L st) : pl_J X Y σ pc L st :=
  fun ad H locs ls h hL hs => lv_goto F.1 F.2.1 hd ht (k ad H locs ls h hL hs)
/-- the six comparisons of ints -/
def pl_h (o : ClassFile.Cond) (x y : Int32) : Bool := match o with
  | .eq => decide (x = y)
  | .ne => decide (¬ x = y)
  | .lt => decide (x < y)
  | .ge => decide (y ≤ x)
  | .gt => decide (y < x)
  | .le => decide (x ≤ y)
theorem j_icmp (F : pl_Fx X Y own cc) {o : ClassFile.Cond} {x y : Int32} {off : Int} {tgt : Nat} (hd : decode cc pc = .ok (.if_icmp o off, 3)) (ht : (pc : Int) + off = (tgt : Int))
    (kt : pl_h o x y = true → pl_J X Y σ tgt L st) (kf : pl_h o x y = false → pl_J X Y σ (pc + 3) L st) : pl_J X Y σ pc L (.int y :: .int x :: st) := by
  intro ad H locs ls h hL hs
  cases o with
  | eq => exact lv_icmp_eq F.1 F.2.1 hd ht (fun z => kt (by simp [pl_h, z]) ad H locs ls h hL hs.2.2) (fun z => kf (by simp [pl_h, z]) ad H locs ls h hL hs.2.2)
  | ne => exact lv_icmp_ne F.1 F.2.1 hd ht (fun z => kt (by simp [pl_h, z]) ad H locs ls h hL hs.2.2) (fun z => kf (by simp [pl_h, z]) ad H locs ls h hL hs.2.2)
  | lt => exact lv_icmp_lt F.1 F.2.1 hd ht (fun z => kt (by unfold pl_h; exact decide_eq_true z) ad H locs ls h hL hs.2.2) (fun z => kf (by unfold pl_h; exact decide_eq_false z) ad H locs ls h hL hs.2.2)
  | ge => exact lv_icmp_ge F.1 F.2.1 hd ht (fun z => kt (by unfold pl_h; exact decide_eq_true z) ad H locs ls h hL hs.2.2) (fun z => kf (by unfold pl_h; exact decide_eq_false z) ad H locs ls h hL hs.2.2)
  | gt => exact lv_icmp_gt F.1 F.2.1 hd ht (fun z => kt (by unfold pl_h; exact decide_eq_true z) ad H locs ls h hL hs.2.2) (fun z => kf (by unfold pl_h; exact decide_eq_false z) ad H locs ls h hL hs.2.2)
  | le => exact lv_icmp_le F.1 F.2.1 hd ht (fun z => kt (by unfold pl_h; exact decide_eq_true z) ad H locs ls h hL hs.2.2) (fun z => kf (by unfold pl_h; exact decide_eq_false z) ad H locs ls h hL hs.2.2)
theorem j_if (F : pl_Fx X Y own cc) {o : ClassFile.Cond} {x : Int32} {off : Int} {tgt : Nat} (hd : decode cc pc = .ok (.ifCond o off, 3)) (ht : (pc : Int) + off = (tgt : Int))
    (kt : pl_h o x 0 = true → pl_J X Y σ tgt L st) (kf : pl_h o x 0 = false → pl_J X Y σ (pc + 3) L st) : pl_J X Y σ pc L (.int x :: st) := by
  intro ad H locs ls h hL hs
  cases o with
  | eq => exact lv_if_eq F.1 F.2.1 hd ht (fun z => kt (by simp [pl_h, z]) ad H locs ls h hL hs.2) (fun z => kf (by simp [pl_h, z]) ad H locs ls h hL hs.2)
  | ne => exact lv_if_ne F.1 F.2.1 hd ht (fun z => kt (by simp [pl_h, z]) ad H locs ls h hL hs.2) (fun z => kf (by simp [pl_h, z]) ad H locs ls h hL hs.2)
  | lt => exact lv_if_lt F.1 F.2.1 hd ht (fun z => kt (by unfold pl_h; exact decide_eq_true z) ad H locs ls h hL hs.2) (fun z => kf (by unfold pl_h; exact decide_eq_false z) ad H locs ls h hL hs.2)
  | ge => exact lv_if_ge F.1 F.2.1 hd ht (fun z => kt (by unfold pl_h; exact decide_eq_true z) ad H locs ls h hL hs.2) (fun z => kf (by unfold pl_h; exact decide_eq_false z) ad H locs ls h hL hs.2)
  | gt => exact lv_if_gt F.1 F.2.1 hd ht (fun z => kt (by unfold pl_h; exact decide_eq_true z) ad H locs ls h hL hs.2) (fun z => kf (by unfold pl_h; exact decide_eq_false z) ad H locs ls h hL hs.2)
  | le => exact lv_if_le F.1 F.2.1 hd ht (fun z => kt (by unfold pl_h; exact decide_eq_true z) ad H locs ls h hL hs.2) (fun z => kf (by unfold pl_h; exact decide_eq_false z) ad H locs ls h hL hs.2)
def pl_isN (v : Value) : Bool := match v with
  | .null => true
  | _ => false
theorem j_ifnull (F : pl_Fx X Y own cc) {v : Value} {off : Int} {tgt : Nat} (hd : decode cc pc = .ok (.ifnull off, 3)) (ht : (pc : Int) + off = (tgt : Int)) (hv : v.isRef = true)
    (kt : pl_isN v = true → pl_J X Y σ tgt L st) (kf : pl_isN v = false → pl_J X Y σ (pc + 3) L st) : pl_J X Y σ pc L (v :: st) := by
  intro ad H locs ls h hL hs
  cases v with
  | ref q => exact lv_ifnull F.1 F.2.1 hd (kf rfl ad H locs ls h hL hs.2)
  | null => exact lv_ifnullN F.1 F.2.1 hd ht (kt rfl ad H locs ls h hL hs.2)
  | _ => simp [Value.isRef] at hv
theorem j_ifnonnull (F : pl_Fx X Y own cc) {v : Value} {off : Int} {tgt : Nat} (hd : decode cc pc = .ok (.ifnonnull off, 3)) (ht : (pc : Int) + off = (tgt : Int)) (hv : v.isRef = true)
    (kt : pl_isN v = false → pl_J X Y σ tgt L st) (kf : pl_isN v = true → pl_J X Y σ (pc + 3) L st) : pl_J X Y σ pc L (v :: st) := by
  intro ad H locs ls h hL hs
  cases v with
  | ref q => exact lv_ifnonnull F.1 F.2.1 hd ht (kt rfl ad H locs ls h hL hs.2)
  | null => exact lv_ifnonnullN F.1 F.2.1 hd (kf rfl ad H locs ls h hL hs.2)
  | _ => simp [Value.isRef] at hv
end Rows
end
section
/-! 03 Rows for fields and for arrays that are there -/
def pl_sv (code k : Nat) (x : Int32) : Value := if pl_rt code k = true then pl_rv x else .int x
theorem pl_sv_re (ad : Nat → Nat) (code k : Nat) (x : Int32) : pl_re ad (pl_sv code k x) = pl_gv ad (pl_rt code k) x := by
  unfold pl_sv
  by_cases h : pl_rt code k = true
  · rw [if_pos h, pl_re_rv, h]
  · rw [if_neg h]
    simp [pl_gv, h, pl_re]
def pl_in (i : Int32) (n : Nat) : Prop := 0 ≤ i.toInt ∧ i.toInt < (n : Int)
theorem pl_clamp (i : Int32) : i.toNatClampNeg = i.toInt.toNat := rfl
theorem pl_in.not {i : Int32} {n : Nat} (h : pl_in i n) : ¬ (i < 0 ∨ n ≤ i.toNatClampNeg) := by
  obtain ⟨h1, h2⟩ := h
  rw [pl_clamp]
  simp only [Int32.lt_iff_toInt_lt, Int32.toInt_zero]
  omega
theorem pl_in.lt {i : Int32} {n : Nat} (h : pl_in i n) : i.toNatClampNeg < n := by
  obtain ⟨h1, h2⟩ := h
  rw [pl_clamp]
  omega
theorem pl_kinds : ∀ c, c < 4 → ∀ k, k < (pl_fl c).length → (pl_rt (c + 5) k = true ∧ (pl_ty c k).isReference = true) ∨ (pl_rt (c + 5) k = false ∧ (pl_ty c k = .int ∨ pl_ty c k = .boolean)) := by decide +kernel
theorem pl_len : ∀ c r, pl_cl[c]? = some r → c < 4 ∧ r.2.2 = (pl_fl c).length ∧ r.2.1 = pl_F c := by
  intro c r h
  match c, h with
  | 0, h => cases h; exact ⟨by decide, rfl, rfl⟩
  | 1, h => cases h; exact ⟨by decide, rfl, rfl⟩
  | 2, h => cases h; exact ⟨by decide, rfl, rfl⟩
  | 3, h => cases h; exact ⟨by decide, rfl, rfl⟩
  | n + 4, h => simp [pl_cl] at h
theorem pl_and1 {x : Int32} (h : x = 0 ∨ x = 1) : x &&& 1 = x := by
  rcases h with rfl | rfl <;> decide
theorem pl_fit {c k : Nat} {r : vw_C} (hc : pl_cl[c]? = some r) (hk : k < r.2.2) {x : Int32} (hz : pl_ty c k = .boolean → x = 0 ∨ x = 1) (ad : Nat → Nat) :
    narrow (pl_ty c k) (pl_gv ad (pl_rt (c + 5) k) x) = pl_gv ad (pl_rt (c + 5) k) x ∧ fits (pl_ty c k) (pl_gv ad (pl_rt (c + 5) k) x) = true := by
  obtain ⟨h4, hl, -⟩ := pl_len c r hc
  rw [hl] at hk
  rcases pl_kinds c h4 k hk with ⟨h1, h2⟩ | ⟨h1, h2 | h2⟩
  · rw [h1]
    generalize pl_ty c k = t at h2
    unfold pl_gv
    by_cases hx : x = -1
    · cases t <;> simp [FieldType.isReference] at h2 <;> simp [hx, narrow, fits]
    · cases t <;> simp [FieldType.isReference] at h2 <;> simp [hx, narrow, fits]
  · rw [h1, h2]
    simp [pl_gv, narrow, fits]
  · rw [h1, h2]
    have h01 := hz h2
    have h3 := pl_and1 h01
    rcases h01 with rfl | rfl <;> simp [pl_gv, narrow, fits]
section Cells
variable {X : pl_X} {Y : pl_Y} {own : String} {cc : ByteArray} {σ : pl_S} {pc : Nat} {L st : List Value}
theorem pl_In.obj {ad : Nat → Nat} {H : Heap} {locs : List Loc} {ls : Array Slot} (h : pl_In X Y σ L ad H locs ls) {q c n : Nat} {r : vw_C} (hc : pl_cl[c]? = some r) (hkd : σ.1 q = (c + 5, n)) : t_OB (ad q) (Y.1.1.1 c) r.2.2 (Y.1.1.2 c) H (fun k => pl_gv ad (pl_rt (c + 5) k) (σ.2.1 q k)) := by
  have h4 := (pl_len c r hc).1
  have hl : pl_live σ q := by unfold pl_live; rw [hkd]; simp
  have ha := h.2.1.1 q hl
  rw [hkd] at ha
  unfold pl_at at ha
  rw [if_neg (by simp), if_pos (by show c + 5 < 9; omega)] at ha
  obtain ⟨r', h1, h2⟩ := ha
  simp only [Nat.add_sub_cancel] at h1 h2
  have hr : r' = r := Option.some.inj (h1.symm.trans hc)
  rw [hr] at h2
  exact h2
theorem pl_In.arr {ad : Nat → Nat} {H : Heap} {locs : List Loc} {ls : Array Slot} (h : pl_In X Y σ L ad H locs ls) {q c n : Nat} (hkd : σ.1 q = (c, n)) (h0 : c ≠ 0) (h5 : c < 5) : H[ad q]? = some (arrV (Y.1.2.1 c) n (fun j => pl_av ad c (σ.2.1 q j))) := by
  have hl : pl_live σ q := by unfold pl_live; rw [hkd]; exact h0
  have ha := h.2.1.1 q hl
  rw [hkd] at ha
  unfold pl_at at ha
  rw [if_pos h5] at ha
  exact ha
theorem pl_In.put {ad : Nat → Nat} {H H1 : Heap} {locs : List Loc} {ls : Array Slot} (h : pl_In X Y σ L ad H locs ls) {q k : Nat} {x : Int32} (hl : pl_live σ q) (h9 : (σ.1 q).1 ≠ 9) (hx : pl_rt (σ.1 q).1 k = true → pl_ok σ x)
    (he : pl_at Y.1 ad q (σ.1 q) (fun b => if b = k then x else σ.2.1 q b) H1) (hz : H1.size = H.size) (ho : ∀ a, a ≠ ad q → H1[a]? = H[a]?) (j : Nat) : pl_In X Y (pl_put σ q k x) L ad H1 (locs ++ [⟨ad q, j⟩]) ls := by
  refine ⟨h.1, h.2.1.put hl hx he ho, ⟨by rw [hz]; exact h.2.2.1.1, fun a h1 h2 => (ho a (fun z => h2 (by rw [z]; exact h.2.2.2.2.1 q hl h9))).trans (h.2.2.1.2 a h1 h2)⟩, fun p hp => ?_, h.2.2.2.2.1, h.2.2.2.2.2.1, h.2.2.2.2.2.2.1, h.2.2.2.2.2.2.2⟩
  rcases List.mem_append.mp hp with hp | hp
  · exact h.2.2.2.1 p hp
  · rw [List.mem_singleton.mp hp]
    exact h.2.2.2.2.1 q hl h9
theorem pl_lv_rv {x : Int32} (h : pl_ok σ x) : pl_lvv σ.1 (pl_rv x) := by
  unfold pl_rv
  rcases h with h | h
  · rw [if_pos h]; trivial
  · by_cases hx : x = -1
    · rw [if_pos hx]; trivial
    · rw [if_neg hx]; exact h
theorem pl_lv_sv {ad : Nat → Nat} {H : Heap} {locs : List Loc} {ls : Array Slot} (h : pl_In X Y σ L ad H locs ls) {q c n k : Nat} (hkd : σ.1 q = (c + 5, n)) : pl_lvv σ.1 (pl_sv (c + 5) k (σ.2.1 q k)) := by
  unfold pl_sv
  by_cases hr : pl_rt (c + 5) k = true
  · rw [if_pos hr]
    exact pl_lv_rv (h.2.1.2.2.1 q (by unfold pl_live; rw [hkd]; simp) k (by rw [hkd]; exact hr))
  · rw [if_neg hr]; trivial
/-- getfield -/
theorem j_get (F : pl_Fx X Y own cc) (c k : Nat) {ref : String} {idx q n : Nat} {r : vw_C} (hc : pl_cl[c]? = some r) (hk : k < r.2.2) (hw : Cond.fieldLink own idx ref (r.2.1 k).2.1 (r.2.1 k).2.2.1 ∈ pl_T) (href : (r.2.1 k).1 = ref)
    (hd : decode cc pc = .ok (.getfield idx, 3)) (hkd : σ.1 q = (c + 5, n)) (kk : pl_J X Y σ (pc + 3) L (pl_sv (c + 5) k (σ.2.1 q k) :: st)) : pl_J X Y σ pc L (.ref q :: st) := by
  intro ad H locs ls h hL hs
  obtain ⟨cell, q1, q2, q3, q4⟩ := h.obj hc hkd
  obtain ⟨hS, hfc, kC, hkC, hkind⟩ := F.2.2.2.2.1.1.1 c _ hc
  obtain ⟨cf, kf, fi, f, hi, hsl⟩ := hS k hk
  refine W.getf F.1 F.2.1 F.2.2.1 (F.2.2.2.1 _ hw) (href ▸ hi) (u_facts hfc hkC (u_lays F.2.2.2.1 (pl_lays_in c r hc) hk) hi).1 q1 (by rw [q3]; exact fun h => by cases h) (v := pl_re ad (pl_sv (c + 5) k (σ.2.1 q k))) ?_ rfl rfl hd (kk ad H locs ls h hL ⟨pl_lv_sv h hkd, hs.2⟩)
  rw [hsl, q4 k hk, pl_sv_re]
/-- putfield of a field that isn't final -/
theorem j_put (F : pl_Fx X Y own cc) (c k : Nat) {ref : String} {idx q n : Nat} {r : vw_C} (hc : pl_cl[c]? = some r) (hk : k < r.2.2) (hw : Cond.fieldLink own idx ref (r.2.1 k).2.1 (r.2.1 k).2.2.1 ∈ pl_T) (href : (r.2.1 k).1 = ref) (hfin : (r.2.1 k).2.2.2 = false)
    (hd : decode cc pc = .ok (.putfield idx, 3)) (hkd : σ.1 q = (c + 5, n)) {x : Int32} (hz : pl_ty c k = .boolean → x = 0 ∨ x = 1) (hx : pl_rt (c + 5) k = true → pl_ok σ x)
    (kk : pl_J X Y (pl_put σ q k x) (pc + 3) L st) : pl_J X Y σ pc L (pl_sv (c + 5) k x :: .ref q :: st) := by
  intro ad H locs ls h hL hs
  obtain ⟨cell, q1, q2, q3, q4⟩ := h.obj hc hkd
  have hK := F.2.2.2.2.1.1
  obtain ⟨hS, hfc, kC, hkC, hkind⟩ := hK.1 c _ hc
  obtain ⟨cf, kf, fi, f, hi, hsl⟩ := hS k hk
  obtain ⟨h4, hlen, hT⟩ := pl_len c r hc
  have hin := pl_lays_in c r hc
  have hap := va_apart (own := own) (T := r.2.1) (N := r.2.2) F.2.2.2.1 hin (pl_ty c) (pl_ty_ok c h4 r hc) (pl_nm_ok c h4 r hc) hK (show pl_cl[c]? = some (r.1, r.2.1, r.2.2) from hc)
  have hlay := F.2.2.2.1 _ (hin _ (u_in_lay hk))
  unfold u_lay at hlay
  rw [if_neg (by rw [hfin]; decide)] at hlay
  have hst := (u_facts hfc hkC (u_lays F.2.2.2.1 hin hk) hi).1
  obtain ⟨hn, hfit⟩ := pl_fit hc hk hz ad
  have h6 := u_store hfc hkC hkind hlay hi (pl_ty_ok c h4 r hc k hk) hn hfit
  show pl_WW X H locs _ _ (F0 (pl_xm X) pc ls (pl_re ad (pl_sv (c + 5) k x) :: .ref (ad q) :: st.map (pl_re ad)))
  rw [pl_sv_re]
  refine W.putK F.1 F.2.1 (f := f) ⟨F.2.2.1, F.2.2.2.1 _ hw, ⟨_, _, _, href ▸ hi⟩, hst⟩ (by rw [q2]; exact h6) q1 q3 (by rw [hsl]; exact k2_hasslot (q4 k hk)) rfl rfl hd fun H' e1 e2 e3 => ?_
  rw [hsl] at e1 ⊢
  have hl : pl_live σ q := by unfold pl_live; rw [hkd]; simp
  refine kk ad H' _ ls (h.put hl (by rw [hkd]; show c + 5 ≠ 9; omega) (by rw [hkd]; exact hx) ?_ e2 e3 _) hL hs.2.2
  unfold pl_at
  rw [hkd, if_neg (by simp), if_pos (by show c + 5 < 9; omega)]
  simp only [Nat.add_sub_cancel]
  refine ⟨r, hc, t_OB.to (V := updV (fun j => pl_gv ad (pl_rt (c + 5) j) (σ.2.1 q j)) k (pl_gv ad (pl_rt (c + 5) k) x)) ⟨_, e1, q2, q3, t_set q4 hap hk _⟩ (fun j _ => ?_)⟩
  by_cases hj : j = k
  · subst hj
    simp [updV]
  · simp [updV, hj]
theorem pl_av1 (ad : Nat → Nat) (x : Int32) : pl_av ad 1 x = .int x := by simp [pl_av, pl_gv, pl_rt]
theorem pl_av2 (ad : Nat → Nat) (x : Int32) : pl_av ad 2 x = .int x := by simp [pl_av, pl_gv, pl_rt]
theorem pl_av3 (ad : Nat → Nat) (x : Int32) : pl_av ad 3 x = .long x.toInt64 := by simp [pl_av]
theorem pl_av4 (ad : Nat → Nat) (x : Int32) : pl_av ad 4 x = pl_gv ad true x := by simp [pl_av, pl_rt]
theorem pl_arr_upd (ad : Nat → Nat) (cA : ClassId) (n code k : Nat) (f : Nat → Int32) (x : Int32) : (arrV cA n (fun j => pl_av ad code (f j))).setSlot k (pl_av ad code x) = arrV cA n (fun j => pl_av ad code (if j = k then x else f j)) := by
  rw [arrV_store]
  congr 1
  funext j
  by_cases hj : j = k
  · simp [updV, hj]
  · simp [updV, hj]
theorem pl_at_arr {G : pl_G} {ad : Nat → Nat} {q n code k : Nat} {f : Nat → Int32} {x : Int32} {H : Heap} (h5 : code < 5) (h : H[ad q]? = some ((arrV (G.2.1 code) n (fun j => pl_av ad code (f j))).setSlot k (pl_av ad code x))) : pl_at G ad q (code, n) (fun b => if b = k then x else f b) H := by
  unfold pl_at
  rw [if_pos h5, h, pl_arr_upd]
theorem j_iald (F : pl_Fx X Y own cc) {q n : Nat} {i : Int32} (hd : decode cc pc = .ok (.iaload, 1)) (hkd : σ.1 q = (1, n)) (hin : pl_in i n) (kk : pl_J X Y σ (pc + 1) L (.int (σ.2.1 q i.toNatClampNeg) :: st)) : pl_J X Y σ pc L (.int i :: .ref q :: st) := by
  intro ad H locs ls h hL hs
  exact W.iald (v := .int (σ.2.1 q i.toNatClampNeg)) F.1 F.2.1 (h.arr hkd (by decide) (by decide)) ((F.2.2.2.2.1.1.2 0 _ rfl).1 n _) (fun z => by cases z) (by rw [arrV_size]; exact hin.not) (by rw [arrV_read _ _ hin.lt, pl_av1]) rfl rfl hd (kk ad H locs ls h hL ⟨trivial, hs.2.2⟩)
theorem j_zald (F : pl_Fx X Y own cc) {q n : Nat} {i : Int32} (hd : decode cc pc = .ok (.baload, 1)) (hkd : σ.1 q = (2, n)) (hin : pl_in i n) (kk : pl_J X Y σ (pc + 1) L (.int (σ.2.1 q i.toNatClampNeg) :: st)) : pl_J X Y σ pc L (.int i :: .ref q :: st) := by
  intro ad H locs ls h hL hs
  exact W.zald (v := .int (σ.2.1 q i.toNatClampNeg)) F.1 F.2.1 (h.arr hkd (by decide) (by decide)) ((F.2.2.2.2.1.1.2 1 _ rfl).1 n _) (fun z => by cases z) (by rw [arrV_size]; exact hin.not) (by rw [arrV_read _ _ hin.lt, pl_av2]) rfl rfl hd (kk ad H locs ls h hL ⟨trivial, hs.2.2⟩)
theorem j_lald (F : pl_Fx X Y own cc) {q n : Nat} {i : Int32} (hd : decode cc pc = .ok (.laload, 1)) (hkd : σ.1 q = (3, n)) (hin : pl_in i n) (kk : pl_J X Y σ (pc + 1) L (.long (σ.2.1 q i.toNatClampNeg).toInt64 :: st)) : pl_J X Y σ pc L (.int i :: .ref q :: st) := by
  intro ad H locs ls h hL hs
  exact W.lald (v := .long (σ.2.1 q i.toNatClampNeg).toInt64) F.1 F.2.1 (h.arr hkd (by decide) (by decide)) ((F.2.2.2.2.1.1.2 2 _ rfl).1 n _) (fun z => by cases z) (by rw [arrV_size]; exact hin.not) (by rw [arrV_read _ _ hin.lt, pl_av3]) rfl rfl hd (kk ad H locs ls h hL ⟨trivial, hs.2.2⟩)
theorem j_aald (F : pl_Fx X Y own cc) {q n : Nat} {i : Int32} (hd : decode cc pc = .ok (.aaload, 1)) (hkd : σ.1 q = (4, n)) (hin : pl_in i n) (kk : pl_J X Y σ (pc + 1) L (pl_rv (σ.2.1 q i.toNatClampNeg) :: st)) : pl_J X Y σ pc L (.int i :: .ref q :: st) := by
  intro ad H locs ls h hL hs
  exact W.aald (v := pl_re ad (pl_rv (σ.2.1 q i.toNatClampNeg))) (ty := .object "PageLayouter$Box") F.1 F.2.1 (h.arr hkd (by decide) (by decide)) ((F.2.2.2.2.1.1.2 3 _ rfl).1 n _) rfl (fun z => by cases z) (by rw [arrV_size]; exact hin.not) (by rw [arrV_read _ _ hin.lt, pl_av4, pl_re_rv]) rfl rfl hd (kk ad H locs ls h hL ⟨pl_lv_rv (h.2.1.2.2.1 q (by unfold pl_live; rw [hkd]; simp) _ (by rw [hkd]; rfl)), hs.2.2⟩)
/-- an element of an array that nobody writes -/
theorem j_rald (F : pl_Fx X Y own cc) {q n : Nat} {i : Int32} (hd : decode cc pc = .ok (.iaload, 1)) (hkd : σ.1 q = (9, n)) (h8 : q < 4) (hin : pl_in i n) (kk : pl_J X Y σ (pc + 1) L (.int (σ.2.1 q i.toNatClampNeg) :: st)) : pl_J X Y σ pc L (.int i :: .ref q :: st) := by
  intro ad H locs ls h hL hs
  have hl : pl_live σ q := by unfold pl_live; rw [hkd]; simp
  have ha := h.2.1.1 q hl
  rw [hkd] at ha
  unfold pl_at at ha
  rw [if_neg (by simp), if_neg (by simp)] at ha
  obtain ⟨h1, h2, h3, h4⟩ := ha
  exact W.iald (v := .int (σ.2.1 q i.toNatClampNeg)) F.1 F.2.1 h1 (F.2.2.2.2.1.2.1 q h8) h2 (by rw [h3]; exact hin.not) (h4 _ hin.lt) rfl rfl hd (kk ad H locs ls h hL ⟨trivial, hs.2.2⟩)
theorem j_rlen (F : pl_Fx X Y own cc) {q n : Nat} (hd : decode cc pc = .ok (.arraylength, 1)) (hkd : σ.1 q = (9, n)) (h8 : q < 4) (kk : pl_J X Y σ (pc + 1) L (.int (Int32.ofNat n) :: st)) : pl_J X Y σ pc L (.ref q :: st) := by
  intro ad H locs ls h hL hs
  have hl : pl_live σ q := by unfold pl_live; rw [hkd]; simp
  have ha := h.2.1.1 q hl
  rw [hkd] at ha
  unfold pl_at at ha
  rw [if_neg (by simp), if_neg (by simp)] at ha
  obtain ⟨h1, h2, h3, h4⟩ := ha
  exact W.alen (n := Int32.ofNat n) F.1 F.2.1 h1 (F.2.2.2.2.1.2.1 q h8) (by rw [h3] <;> rfl) rfl rfl hd (kk ad H locs ls h hL ⟨trivial, hs.2⟩)
theorem j_iast (F : pl_Fx X Y own cc) {q n : Nat} {i x : Int32} (hd : decode cc pc = .ok (.iastore, 1)) (hkd : σ.1 q = (1, n)) (hin : pl_in i n) (kk : pl_J X Y (pl_put σ q i.toNatClampNeg x) (pc + 1) L st) : pl_J X Y σ pc L (.int x :: .int i :: .ref q :: st) := by
  intro ad H locs ls h hL hs
  have hl : pl_live σ q := by unfold pl_live; rw [hkd]; simp
  refine W.iast F.1 F.2.1 (h.arr hkd (by decide) (by decide)) ((F.2.2.2.2.1.1.2 0 _ rfl).1 n _) (fun z => by cases z) (by rw [arrV_size]; exact hin.not) rfl rfl hd fun H1 e z oq => ?_
  refine kk ad H1 _ ls (h.put hl (by rw [hkd]; simp) (by rw [hkd]; exact fun z => by cases z) ?_ z oq _) hL hs.2.2.2
  rw [hkd]
  exact pl_at_arr (by decide) (by rw [e, pl_av1])
theorem j_zast (F : pl_Fx X Y own cc) {q n : Nat} {i x : Int32} (hd : decode cc pc = .ok (.bastore, 1)) (hkd : σ.1 q = (2, n)) (hin : pl_in i n) (hx : x = 0 ∨ x = 1) (kk : pl_J X Y (pl_put σ q i.toNatClampNeg x) (pc + 1) L st) : pl_J X Y σ pc L (.int x :: .int i :: .ref q :: st) := by
  intro ad H locs ls h hL hs
  have hl : pl_live σ q := by unfold pl_live; rw [hkd]; simp
  refine W.zast F.1 F.2.1 (h.arr hkd (by decide) (by decide)) ((F.2.2.2.2.1.1.2 1 _ rfl).1 n _) (fun z => by cases z) (by rw [arrV_size]; exact hin.not) rfl rfl hd fun H1 e z oq => ?_
  refine kk ad H1 _ ls (h.put hl (by rw [hkd]; simp) (by rw [hkd]; exact fun z => by cases z) ?_ z oq _) hL hs.2.2.2
  rw [hkd]
  exact pl_at_arr (by decide) (by rw [e, pl_av2]; simp only [narrow, pl_and1 hx])
theorem j_last (F : pl_Fx X Y own cc) {q n : Nat} {i x : Int32} (hd : decode cc pc = .ok (.lastore, 1)) (hkd : σ.1 q = (3, n)) (hin : pl_in i n) (kk : pl_J X Y (pl_put σ q i.toNatClampNeg x) (pc + 1) L st) : pl_J X Y σ pc L (.long x.toInt64 :: .int i :: .ref q :: st) := by
  intro ad H locs ls h hL hs
  have hl : pl_live σ q := by unfold pl_live; rw [hkd]; simp
  refine W.last F.1 F.2.1 (h.arr hkd (by decide) (by decide)) ((F.2.2.2.2.1.1.2 2 _ rfl).1 n _) (fun z => by cases z) (by rw [arrV_size]; exact hin.not) rfl rfl hd fun H1 e z oq => ?_
  refine kk ad H1 _ ls (h.put hl (by rw [hkd]; simp) (by rw [hkd]; exact fun z => by cases z) ?_ z oq _) hL hs.2.2.2
  rw [hkd]
  exact pl_at_arr (by decide) (by rw [e, pl_av3])
theorem j_aast (F : pl_Fx X Y own cc) {q n n' : Nat} {i x : Int32} (hd : decode cc pc = .ok (.aastore, 1)) (hkd : σ.1 q = (4, n)) (hin : pl_in i n) (hx : x ≠ -1) (hb : σ.1 x.toNatClampNeg = (6, n')) (kk : pl_J X Y (pl_put σ q i.toNatClampNeg x) (pc + 1) L st) : pl_J X Y σ pc L (pl_rv x :: .int i :: .ref q :: st) := by
  intro ad H locs ls h hL hs
  have hl : pl_live σ q := by unfold pl_live; rw [hkd]; simp
  have hl' : pl_live σ x.toNatClampNeg := by unfold pl_live; rw [hb]; simp
  have hK := F.2.2.2.2.1.1
  obtain ⟨cell, g1, g2, g3, -⟩ := h.obj (c := 1) (r := ("PageLayouter$Box", pl_F 1, 20)) rfl hb
  have hcls := (hK.1 1 ("PageLayouter$Box", pl_F 1, 20) rfl).2
  obtain ⟨kA, comp, k1, k2, k3, -⟩ := (hK.2 3 _ rfl).2
  have hcomp : comp = Y.1.1.1 1 := Option.some.inj (k3.symm.trans hcls.1)
  subst hcomp
  obtain ⟨kC, hkC, -⟩ := hcls.2
  have e0 : pl_rv x = .ref x.toNatClampNeg := by simp [pl_rv, hx]
  have ev : pl_av ad 4 x = .ref (ad x.toNatClampNeg) := by rw [pl_av4]; simp [pl_gv, hx]
  show pl_WW X H locs _ _ (F0 (pl_xm X) pc ls (pl_re ad (pl_rv x) :: .int i :: .ref (ad q) :: st.map (pl_re ad)))
  rw [e0]
  refine W.aast F.1 F.2.1 (h.arr hkd (by decide) (by decide)) (fun z hz => by cases hz) (fun z => by cases z) k1 k2 rfl hkC ⟨fun z => hin.not (Or.inl z), by rw [arrV_size]; exact hin.lt⟩ g1 (fun z hz => by rw [g3] at hz; cases hz) (by rw [g2]; exact hkC) (by rw [g2]; exact va_assign hcls) rfl rfl hd fun H1 e z oq => ?_
  refine kk ad H1 _ ls (h.put hl (by rw [hkd]; simp) (fun _ => Or.inr hl') ?_ z oq _) hL hs.2.2.2
  rw [hkd]
  exact pl_at_arr (by decide) (by rw [e, ev])
/-- a static array of the system's: by its own name, or by a nest mate's -/
theorem j_gets (F : pl_Fx X Y own cc) {idx : Nat} (z : Nat) {nm : String} {n : Nat} (hZ : va_Z "PageLayouter" nm "[I" (.ref (Y.1.2.2.2 z)) (pl_fr Y) (pl_xs X) (pl_xs X).heap) (hw : Cond.fieldLink own idx "PageLayouter" nm "[I" ∈ pl_T) (hd : decode cc pc = .ok (.getstatic idx, 3)) (hkd : σ.1 z = (9, n)) (kk : pl_J X Y σ (pc + 3) L (.ref z :: st)) : pl_J X Y σ pc L st := by
  intro ad H locs ls h hL hs
  have hl : pl_live σ z := by unfold pl_live; rw [hkd]; simp
  have e := h.2.1.2.2.2 z hl (by rw [hkd])
  refine va_gets F.1 F.2.1 hZ h.S F.2.2.1 (F.2.2.2.1 _ hw) (fun x hx => hx) hd ?_
  rw [← e]
  exact kk ad H locs ls h hL ⟨hl, hs⟩
theorem j_getsN (F : pl_Fx X Y own cc) {idx : Nat} (z : Nat) {nm host : String} {n : Nat} (hZ : va_Z "PageLayouter" nm "[I" (.ref (Y.1.2.2.2 z)) (pl_fr Y) (pl_xs X) (pl_xs X).heap) (hw : Cond.fieldLinkNest own idx "PageLayouter" nm "[I" host ∈ pl_N) (hd : decode cc pc = .ok (.getstatic idx, 3)) (hkd : σ.1 z = (9, n)) (kk : pl_J X Y σ (pc + 3) L (.ref z :: st)) : pl_J X Y σ pc L st := by
  intro ad H locs ls h hL hs
  have hl : pl_live σ z := by unfold pl_live; rw [hkd]; simp
  have e := h.2.1.2.2.2 z hl (by rw [hkd])
  refine va_getsN F.1 F.2.1 hZ h.S F.2.2.1 (va_Nw.use rfl (F.2.2.2.2.1.2.2 _ hw)) (fun x hx => hx) hd ?_
  rw [← e]
  exact kk ad H locs ls h hL ⟨hl, hs⟩
end Cells
end
section
/-! 04 What a piece of code does, as a transformer of what is wanted behind it, and the judgements that bytes do it: pl_C (a value), pl_B (a condition that falls through or jumps), pl_D (a statement) -/
abbrev pl_E (α : Type) : Type := List Value → pl_S → (α → pl_S → Prop) → Prop
abbrev pl_ST : Type := List Value → pl_S → (List Value → pl_S → Prop) → Prop
def pl_wd (st : List Value) : Nat := (st.map fun v => v.category).sum
theorem pl_wd_cons (v : Value) (st : List Value) : pl_wd (v :: st) = v.category + pl_wd st := by simp [pl_wd]
def pl_C (X : pl_X) (Y : pl_Y) {α : Type} (em : α → Value) (n pc : Nat) (e : pl_E α) (pc' : Nat) : Prop :=
  ∀ (L st : List Value) (σ : pl_S) (K : α → pl_S → Prop), pl_wd st ≤ n → (∀ x σ', K x σ' → pl_J X Y σ' pc' L (em x :: st)) → e L σ K → pl_J X Y σ pc L st
def pl_B (X : pl_X) (Y : pl_Y) (n pc : Nat) (c : pl_E Bool) (pol : Bool) (pf pj : Nat) : Prop :=
  ∀ (L st : List Value) (σ : pl_S) (K : Bool → pl_S → Prop), pl_wd st ≤ n → (∀ σ', K pol σ' → pl_J X Y σ' pf L st) → (∀ σ', K (!pol) σ' → pl_J X Y σ' pj L st) → c L σ K → pl_J X Y σ pc L st
def pl_D (X : pl_X) (Y : pl_Y) (pc : Nat) (s : pl_ST) (pc' : Nat) : Prop :=
  ∀ (L : List Value) (σ : pl_S) (K : List Value → pl_S → Prop), (∀ L' σ', K L' σ' → pl_J X Y σ' pc' L' []) → s L σ K → pl_J X Y σ pc L []
-- values
def e_int (v : Int32) : pl_E Int32 := fun _ σ K => K v σ
def e_long (v : Int64) : pl_E Int64 := fun _ σ K => K v σ
def e_null : pl_E Value := fun _ σ K => K .null σ
def e_loc (i : Nat) : pl_E Int32 := fun L σ K => ∃ x, L[i]? = some (.int x) ∧ K x σ
def e_locl (i : Nat) : pl_E Int64 := fun L σ K => ∃ x, L[i]? = some (.long x) ∧ K x σ
def e_locr (i : Nat) : pl_E Value := fun L σ K => ∃ v, L[i]? = some v ∧ v.isRef = true ∧ K v σ
def e_un {α β : Type} (f : α → β) (a : pl_E α) : pl_E β := fun L σ K => a L σ (fun x σ1 => K (f x) σ1)
def e_bin {α β γ : Type} (f : α → β → γ) (a : pl_E α) (b : pl_E β) : pl_E γ := fun L σ K => a L σ (fun x σ1 => b L σ1 (fun y σ2 => K (f x y) σ2))
def e_div (a b : pl_E Int32) : pl_E Int32 := fun L σ K => a L σ (fun x σ1 => b L σ1 (fun y σ2 => ¬ y = 0 ∧ K (x / y) σ2))
def e_ldiv (a b : pl_E Int64) : pl_E Int64 := fun L σ K => a L σ (fun x σ1 => b L σ1 (fun y σ2 => ¬ y = 0 ∧ K (x / y) σ2))
def e_geti (c k : Nat) (o : pl_E Value) : pl_E Int32 := fun L σ K => o L σ (fun v σ1 => ∃ q n, v = .ref q ∧ σ1.1 q = (c + 5, n) ∧ K (σ1.2.1 q k) σ1)
def e_getr (c k : Nat) (o : pl_E Value) : pl_E Value := fun L σ K => o L σ (fun v σ1 => ∃ q n, v = .ref q ∧ σ1.1 q = (c + 5, n) ∧ K (pl_rv (σ1.2.1 q k)) σ1)
def e_ald (t : Nat) (a : pl_E Value) (i : pl_E Int32) : pl_E Int32 := fun L σ K => a L σ (fun v σ1 => i L σ1 (fun x σ2 => ∃ q n, v = .ref q ∧ σ2.1 q = (t, n) ∧ pl_in x n ∧ K (σ2.2.1 q x.toNatClampNeg) σ2))
def e_rald (a : pl_E Value) (i : pl_E Int32) : pl_E Int32 := fun L σ K => a L σ (fun v σ1 => i L σ1 (fun x σ2 => ∃ q n, v = .ref q ∧ σ2.1 q = (9, n) ∧ q < 4 ∧ pl_in x n ∧ K (σ2.2.1 q x.toNatClampNeg) σ2))
def e_lald (a : pl_E Value) (i : pl_E Int32) : pl_E Int64 := fun L σ K => a L σ (fun v σ1 => i L σ1 (fun x σ2 => ∃ q n, v = .ref q ∧ σ2.1 q = (3, n) ∧ pl_in x n ∧ K (σ2.2.1 q x.toNatClampNeg).toInt64 σ2))
def e_aald (a : pl_E Value) (i : pl_E Int32) : pl_E Value := fun L σ K => a L σ (fun v σ1 => i L σ1 (fun x σ2 => ∃ q n, v = .ref q ∧ σ2.1 q = (4, n) ∧ pl_in x n ∧ K (pl_rv (σ2.2.1 q x.toNatClampNeg)) σ2))
def e_rlen (a : pl_E Value) : pl_E Int32 := fun L σ K => a L σ (fun v σ1 => ∃ q n, v = .ref q ∧ σ1.1 q = (9, n) ∧ q < 4 ∧ K (Int32.ofNat n) σ1)
def e_if {α : Type} (c : pl_E Bool) (a b : pl_E α) : pl_E α := fun L σ K => c L σ (fun x σ1 => if x = true then a L σ1 K else b L σ1 K)
-- conditions
def b_cmp (o : ClassFile.Cond) (a b : pl_E Int32) : pl_E Bool := fun L σ K => a L σ (fun x σ1 => b L σ1 (fun y σ2 => K (pl_h o x y) σ2))
def b_zero (o : ClassFile.Cond) (a : pl_E Int32) : pl_E Bool := fun L σ K => a L σ (fun x σ1 => K (pl_h o x 0) σ1)
def b_lcmp (o : ClassFile.Cond) (a b : pl_E Int64) : pl_E Bool := fun L σ K => a L σ (fun x σ1 => b L σ1 (fun y σ2 => K (pl_h o (lg_cmp x y) 0) σ2))
def b_null (a : pl_E Value) : pl_E Bool := fun L σ K => a L σ (fun v σ1 => v.isRef = true ∧ K (pl_isN v) σ1)
def b_nn (a : pl_E Value) : pl_E Bool := fun L σ K => a L σ (fun v σ1 => v.isRef = true ∧ K (!pl_isN v) σ1)
def b_and (a b : pl_E Bool) : pl_E Bool := fun L σ K => a L σ (fun x σ1 => if x = true then b L σ1 K else K false σ1)
def b_or (a b : pl_E Bool) : pl_E Bool := fun L σ K => a L σ (fun x σ1 => if x = true then K true σ1 else b L σ1 K)
def b_not (a : pl_E Bool) : pl_E Bool := fun L σ K => a L σ (fun x σ1 => K (!x) σ1)
-- statements
def s_skip : pl_ST := fun L σ K => K L σ
def s_seq (a b : pl_ST) : pl_ST := fun L σ K => a L σ (fun L1 σ1 => b L1 σ1 K)
def s_seti (i : Nat) (e : pl_E Int32) : pl_ST := fun L σ K => e L σ (fun x σ1 => K (pl_set L i (.int x)) σ1)
def s_setl (i : Nat) (e : pl_E Int64) : pl_ST := fun L σ K => e L σ (fun x σ1 => K (pl_set2 L i (.long x)) σ1)
def s_setr (i : Nat) (e : pl_E Value) : pl_ST := fun L σ K => e L σ (fun v σ1 => v.isRef = true ∧ K (pl_set L i v) σ1)
def s_inc (i : Nat) (n : Int32) : pl_ST := fun L σ K => ∃ x, L[i]? = some (.int x) ∧ K (pl_set L i (.int (x + n))) σ
def s_puti (c k : Nat) (o : pl_E Value) (e : pl_E Int32) : pl_ST := fun L σ K => o L σ (fun v σ1 => e L σ1 (fun x σ2 => ∃ q n, v = .ref q ∧ σ2.1 q = (c + 5, n) ∧ K L (pl_put σ2 q k x)))
def s_putz (c k : Nat) (o : pl_E Value) (e : pl_E Int32) : pl_ST := fun L σ K => o L σ (fun v σ1 => e L σ1 (fun x σ2 => ∃ q n, v = .ref q ∧ σ2.1 q = (c + 5, n) ∧ (x = 0 ∨ x = 1) ∧ K L (pl_put σ2 q k x)))
def s_putr (c k : Nat) (o e : pl_E Value) : pl_ST := fun L σ K => o L σ (fun v σ1 => e L σ1 (fun w σ2 => ∃ q n x, v = .ref q ∧ σ2.1 q = (c + 5, n) ∧ w = pl_rv x ∧ pl_ok σ2 x ∧ K L (pl_put σ2 q k x)))
def s_updi (c k : Nat) (f : Int32 → Int32 → Int32) (o : pl_E Value) (e : pl_E Int32) : pl_ST := fun L σ K => o L σ (fun v σ1 => ∃ q n, v = .ref q ∧ σ1.1 q = (c + 5, n) ∧ e L σ1 (fun y σ2 => σ2.1 q = (c + 5, n) ∧ K L (pl_put σ2 q k (f (σ1.2.1 q k) y))))
def s_iast (a : pl_E Value) (i e : pl_E Int32) : pl_ST := fun L σ K => a L σ (fun v σ1 => i L σ1 (fun j σ2 => e L σ2 (fun x σ3 => ∃ q n, v = .ref q ∧ σ3.1 q = (1, n) ∧ pl_in j n ∧ K L (pl_put σ3 q j.toNatClampNeg x))))
def s_zast (a : pl_E Value) (i e : pl_E Int32) : pl_ST := fun L σ K => a L σ (fun v σ1 => i L σ1 (fun j σ2 => e L σ2 (fun x σ3 => ∃ q n, v = .ref q ∧ σ3.1 q = (2, n) ∧ pl_in j n ∧ (x = 0 ∨ x = 1) ∧ K L (pl_put σ3 q j.toNatClampNeg x))))
def s_last (a : pl_E Value) (i e : pl_E Int32) : pl_ST := fun L σ K => a L σ (fun v σ1 => i L σ1 (fun j σ2 => e L σ2 (fun x σ3 => ∃ q n, v = .ref q ∧ σ3.1 q = (3, n) ∧ pl_in j n ∧ K L (pl_put σ3 q j.toNatClampNeg x))))
def s_aast (a : pl_E Value) (i : pl_E Int32) (e : pl_E Value) : pl_ST := fun L σ K => a L σ (fun v σ1 => i L σ1 (fun j σ2 => e L σ2 (fun w σ3 => ∃ q n x n', v = .ref q ∧ σ3.1 q = (4, n) ∧ pl_in j n ∧ w = pl_rv x ∧ x ≠ -1 ∧ σ3.1 x.toNatClampNeg = (6, n') ∧ K L (pl_put σ3 q j.toNatClampNeg x))))
def s_iupd (f : Int32 → Int32 → Int32) (a : pl_E Value) (i e : pl_E Int32) : pl_ST := fun L σ K => a L σ (fun v σ1 => i L σ1 (fun j σ2 => ∃ q n, v = .ref q ∧ σ2.1 q = (1, n) ∧ pl_in j n ∧ e L σ2 (fun y σ3 => σ3.1 q = (1, n) ∧ K L (pl_put σ3 q j.toNatClampNeg (f (σ2.2.1 q j.toNatClampNeg) y)))))
def s_if (c : pl_E Bool) (a : pl_ST) : pl_ST := fun L σ K => c L σ (fun x σ1 => if x = true then a L σ1 K else K L σ1)
def s_ife (c : pl_E Bool) (a b : pl_ST) : pl_ST := fun L σ K => c L σ (fun x σ1 => if x = true then a L σ1 K else b L σ1 K)
def s_while (c : pl_E Bool) (b : pl_ST) : pl_ST := fun L σ K => ∀ I : List Value → pl_S → Prop, (∀ L1 σ1, c L1 σ1 (fun x σ2 => if x = true then b L1 σ2 I else K L1 σ2) → I L1 σ1) → I L σ
def pl_fg (c k : Nat) (b : Bool) : Prop := c < 4 ∧ k < (pl_fl c).length ∧ pl_rt (c + 5) k = b
def pl_isZ : FieldType → Bool
  | .boolean => true
  | _ => false
def pl_fp (c k : Nat) (b z : Bool) : Prop := pl_fg c k b ∧ (pl_F c k).2.2.2 = false ∧ pl_isZ (pl_ty c k) = z
theorem pl_r_of {c : Nat} (h : c < 4) : ∃ r : vw_C, pl_cl[c]? = some r ∧ r.2.1 = pl_F c ∧ r.2.2 = (pl_fl c).length := by
  match c, h with
  | 0, _ => exact ⟨_, rfl, rfl, rfl⟩
  | 1, _ => exact ⟨_, rfl, rfl, rfl⟩
  | 2, _ => exact ⟨_, rfl, rfl, rfl⟩
  | 3, _ => exact ⟨_, rfl, rfl, rfl⟩
section Comb
variable {X : pl_X} {Y : pl_Y} {own : String} {cc : ByteArray} {n pc p1 p2 p3 p4 pf pj : Nat}
theorem c_iconst (F : pl_Fx X Y own cc) {z : Int} {v : Int32} (hd : decode cc pc = .ok (.iconst z, 1)) (hv : Int32.ofInt z = v) : pl_C X Y Value.int n pc (e_int v) (pc + 1) := fun _ _ _ _ _ hk h => j_iconst F hd hv (hk _ _ h)
theorem c_bipush (F : pl_Fx X Y own cc) {z : Int} {v : Int32} (hd : decode cc pc = .ok (.bipush z, 2)) (hv : (Int8.ofInt z).toInt32 = v) : pl_C X Y Value.int n pc (e_int v) (pc + 2) := fun _ _ _ _ _ hk h => j_bipush F hd hv (hk _ _ h)
theorem c_sipush (F : pl_Fx X Y own cc) {z : Int} {v : Int32} (hd : decode cc pc = .ok (.sipush z, 3)) (hv : (Int16.ofInt z).toInt32 = v) : pl_C X Y Value.int n pc (e_int v) (pc + 3) := fun _ _ _ _ _ hk h => j_sipush F hd hv (hk _ _ h)
theorem c_ldc (F : pl_Fx X Y own cc) {idx : Nat} {v : Int32} (hw : Cond.constant own idx v ∈ pl_T) (hd : decode cc pc = .ok (.ldc idx, 2)) : pl_C X Y Value.int n pc (e_int v) (pc + 2) := fun _ _ _ _ _ hk h => j_ldc F hw hd (hk _ _ h)
theorem c_lconst (F : pl_Fx X Y own cc) {z : Fin 2} {v : Int64} (hd : decode cc pc = .ok (.lconst z, 1)) (hv : Int64.ofNat (z : Nat) = v) : pl_C X Y Value.long n pc (e_long v) (pc + 1) := fun _ _ _ _ _ hk h => j_lconst F hd hv (hk _ _ h)
theorem c_null (F : pl_Fx X Y own cc) (hd : decode cc pc = .ok (.aconst_null, 1)) : pl_C X Y id n pc e_null (pc + 1) := fun _ _ _ _ _ hk h => j_null F hd (hk _ _ h)
theorem c_iload_n (F : pl_Fx X Y own cc) {k : Fin 4} {i : Nat} (hd : decode cc pc = .ok (.iload_n k, 1)) (hi : (k : Nat) = i) : pl_C X Y Value.int n pc (e_loc i) (pc + 1) := fun _ _ _ _ _ hk ⟨_, h1, h2⟩ => j_iload_n F hd hi h1 (hk _ _ h2)
theorem c_iload (F : pl_Fx X Y own cc) {i : Nat} (hd : decode cc pc = .ok (.iload i, 2)) : pl_C X Y Value.int n pc (e_loc i) (pc + 2) := fun _ _ _ _ _ hk ⟨_, h1, h2⟩ => j_iload F hd h1 (hk _ _ h2)
theorem c_lload_n (F : pl_Fx X Y own cc) {k : Fin 4} {i : Nat} (hd : decode cc pc = .ok (.lload_n k, 1)) (hi : (k : Nat) = i) : pl_C X Y Value.long n pc (e_locl i) (pc + 1) := fun _ _ _ _ _ hk ⟨_, h1, h2⟩ => j_lload_n F hd hi h1 (hk _ _ h2)
theorem c_lload (F : pl_Fx X Y own cc) {i : Nat} (hd : decode cc pc = .ok (.lload i, 2)) : pl_C X Y Value.long n pc (e_locl i) (pc + 2) := fun _ _ _ _ _ hk ⟨_, h1, h2⟩ => j_lload F hd h1 (hk _ _ h2)
theorem c_aload_n (F : pl_Fx X Y own cc) {k : Fin 4} {i : Nat} (hd : decode cc pc = .ok (.aload_n k, 1)) (hi : (k : Nat) = i) : pl_C X Y id n pc (e_locr i) (pc + 1) := fun _ _ _ _ _ hk ⟨_, h1, h2, h3⟩ => j_aload_n F hd hi h1 h2 (hk _ _ h3)
theorem c_aload (F : pl_Fx X Y own cc) {i : Nat} (hd : decode cc pc = .ok (.aload i, 2)) : pl_C X Y id n pc (e_locr i) (pc + 2) := fun _ _ _ _ _ hk ⟨_, h1, h2, h3⟩ => j_aload F hd h1 h2 (hk _ _ h3)
theorem c_un {α β : Type} {ea : α → Value} {eb : β → Value} {f : α → β} {a : pl_E α} (ha : pl_C X Y ea n pc a p1) (hj : ∀ {L st : List Value} {σ : pl_S} {x : α}, pl_J X Y σ (p1 + 1) L (eb (f x) :: st) → pl_J X Y σ p1 L (ea x :: st)) : pl_C X Y eb n pc (e_un f a) (p1 + 1) :=
  fun L st σ _ hw hk h => ha L st σ _ hw (fun _ _ h1 => hj (hk _ _ h1)) h
theorem c_bin {α β γ : Type} {ea : α → Value} {eb : β → Value} {eg : γ → Value} {f : α → β → γ} {a : pl_E α} {b : pl_E β} (d : Nat) (ha : pl_C X Y ea n pc a p1) (hb : pl_C X Y eb (n + d) p1 b p2) (hc : ∀ x, (ea x).category ≤ d)
    (hj : ∀ {L st : List Value} {σ : pl_S} {x : α} {y : β}, pl_J X Y σ (p2 + 1) L (eg (f x y) :: st) → pl_J X Y σ p2 L (eb y :: ea x :: st)) : pl_C X Y eg n pc (e_bin f a b) (p2 + 1) :=
  fun L st σ _ hw hk h => ha L st σ _ hw (fun x σ1 h1 => hb L (ea x :: st) σ1 _ (by rw [pl_wd_cons]; have := hc x; omega) (fun _ _ h2 => hj (hk _ _ h2)) h1) h
theorem c_div (F : pl_Fx X Y own cc) {a b : pl_E Int32} (ha : pl_C X Y Value.int n pc a p1) (hb : pl_C X Y Value.int (n + 1) p1 b p2) (hd : decode cc p2 = .ok (.idiv, 1)) : pl_C X Y Value.int n pc (e_div a b) (p2 + 1) :=
  fun L st σ _ hw hk h => ha L st σ _ hw (fun x σ1 h1 => hb L (.int x :: st) σ1 _ (by rw [pl_wd_cons]; simp only [Value.category]; omega) (fun _ _ h2 => j_idiv F hd h2.1 (hk _ _ h2.2)) h1) h
theorem c_ldiv (F : pl_Fx X Y own cc) {a b : pl_E Int64} (ha : pl_C X Y Value.long n pc a p1) (hb : pl_C X Y Value.long (n + 2) p1 b p2) (hd : decode cc p2 = .ok (.ldiv, 1)) : pl_C X Y Value.long n pc (e_ldiv a b) (p2 + 1) :=
  fun L st σ _ hw hk h => ha L st σ _ hw (fun x σ1 h1 => hb L (.long x :: st) σ1 _ (by rw [pl_wd_cons]; simp only [Value.category]; omega) (fun _ _ h2 => j_ldiv F hd h2.1 (hk _ _ h2.2)) h1) h
theorem c_geti (F : pl_Fx X Y own cc) (c k : Nat) {o : pl_E Value} {idx : Nat} (hf : pl_fg c k false) (ho : pl_C X Y id n pc o p1) (hd : decode cc p1 = .ok (.getfield idx, 3)) (hw : Cond.fieldLink own idx (pl_F c k).1 (pl_F c k).2.1 (pl_F c k).2.2.1 ∈ pl_T) : pl_C X Y Value.int n pc (e_geti c k o) (p1 + 3) := by
  obtain ⟨h4, hk, hrt⟩ := hf
  obtain ⟨r, hc, e1, e2⟩ := pl_r_of h4
  intro L st σ K hwd hk' h
  refine ho L st σ _ hwd (fun v σ1 ⟨q, n1, hv, hkd, h1⟩ => ?_) h
  subst hv
  refine j_get F c k hc (by rw [e2]; exact hk) (by rw [e1]; exact hw) (by rw [e1]) hd hkd ?_
  unfold pl_sv
  rw [if_neg (by rw [hrt]; decide)]
  exact hk' _ _ h1
theorem c_getr (F : pl_Fx X Y own cc) (c k : Nat) {o : pl_E Value} {idx : Nat} (hf : pl_fg c k true) (ho : pl_C X Y id n pc o p1) (hd : decode cc p1 = .ok (.getfield idx, 3)) (hw : Cond.fieldLink own idx (pl_F c k).1 (pl_F c k).2.1 (pl_F c k).2.2.1 ∈ pl_T) : pl_C X Y id n pc (e_getr c k o) (p1 + 3) := by
  obtain ⟨h4, hk, hrt⟩ := hf
  obtain ⟨r, hc, e1, e2⟩ := pl_r_of h4
  intro L st σ K hwd hk' h
  refine ho L st σ _ hwd (fun v σ1 ⟨q, n1, hv, hkd, h1⟩ => ?_) h
  subst hv
  refine j_get F c k hc (by rw [e2]; exact hk) (by rw [e1]; exact hw) (by rw [e1]) hd hkd ?_
  unfold pl_sv
  rw [if_pos hrt]
  exact hk' _ _ h1
theorem pl_wd2 {n : Nat} {v : Value} {st : List Value} (h : pl_wd st ≤ n) : pl_wd (v :: st) ≤ n + 2 := by
  rw [pl_wd_cons]
  rcases lv_cat v with hv | hv <;> omega
theorem pl_wd1 {n : Nat} {x : Int32} {st : List Value} (h : pl_wd st ≤ n) : pl_wd (.int x :: st) ≤ n + 1 := by
  rw [pl_wd_cons]
  simp only [Value.category]
  omega
theorem pl_wdl {n : Nat} {x : Int64} {st : List Value} (h : pl_wd st ≤ n) : pl_wd (.long x :: st) ≤ n + 2 := by
  rw [pl_wd_cons]
  simp only [Value.category]
  omega
theorem c_iald (F : pl_Fx X Y own cc) {a : pl_E Value} {i : pl_E Int32} (ha : pl_C X Y id n pc a p1) (hi : pl_C X Y Value.int (n + 2) p1 i p2) (hd : decode cc p2 = .ok (.iaload, 1)) : pl_C X Y Value.int n pc (e_ald 1 a i) (p2 + 1) :=
  fun L st σ _ hw hk h => ha L st σ _ hw (fun v σ1 h1 => hi L (v :: st) σ1 _ (pl_wd2 hw) (fun x σ2 ⟨q, m, hv, hkd, hin, h2⟩ => by subst hv; exact j_iald F hd hkd hin (hk _ _ h2)) h1) h
theorem c_zald (F : pl_Fx X Y own cc) {a : pl_E Value} {i : pl_E Int32} (ha : pl_C X Y id n pc a p1) (hi : pl_C X Y Value.int (n + 2) p1 i p2) (hd : decode cc p2 = .ok (.baload, 1)) : pl_C X Y Value.int n pc (e_ald 2 a i) (p2 + 1) :=
  fun L st σ _ hw hk h => ha L st σ _ hw (fun v σ1 h1 => hi L (v :: st) σ1 _ (pl_wd2 hw) (fun x σ2 ⟨q, m, hv, hkd, hin, h2⟩ => by subst hv; exact j_zald F hd hkd hin (hk _ _ h2)) h1) h
theorem c_rald (F : pl_Fx X Y own cc) {a : pl_E Value} {i : pl_E Int32} (ha : pl_C X Y id n pc a p1) (hi : pl_C X Y Value.int (n + 2) p1 i p2) (hd : decode cc p2 = .ok (.iaload, 1)) : pl_C X Y Value.int n pc (e_rald a i) (p2 + 1) :=
  fun L st σ _ hw hk h => ha L st σ _ hw (fun v σ1 h1 => hi L (v :: st) σ1 _ (pl_wd2 hw) (fun x σ2 ⟨q, m, hv, hkd, h8, hin, h2⟩ => by subst hv; exact j_rald F hd hkd h8 hin (hk _ _ h2)) h1) h
theorem c_lald (F : pl_Fx X Y own cc) {a : pl_E Value} {i : pl_E Int32} (ha : pl_C X Y id n pc a p1) (hi : pl_C X Y Value.int (n + 2) p1 i p2) (hd : decode cc p2 = .ok (.laload, 1)) : pl_C X Y Value.long n pc (e_lald a i) (p2 + 1) :=
  fun L st σ _ hw hk h => ha L st σ _ hw (fun v σ1 h1 => hi L (v :: st) σ1 _ (pl_wd2 hw) (fun x σ2 ⟨q, m, hv, hkd, hin, h2⟩ => by subst hv; exact j_lald F hd hkd hin (hk _ _ h2)) h1) h
theorem c_aald (F : pl_Fx X Y own cc) {a : pl_E Value} {i : pl_E Int32} (ha : pl_C X Y id n pc a p1) (hi : pl_C X Y Value.int (n + 2) p1 i p2) (hd : decode cc p2 = .ok (.aaload, 1)) : pl_C X Y id n pc (e_aald a i) (p2 + 1) :=
  fun L st σ _ hw hk h => ha L st σ _ hw (fun v σ1 h1 => hi L (v :: st) σ1 _ (pl_wd2 hw) (fun x σ2 ⟨q, m, hv, hkd, hin, h2⟩ => by subst hv; exact j_aald F hd hkd hin (hk _ _ h2)) h1) h
theorem c_rlen (F : pl_Fx X Y own cc) {a : pl_E Value} (ha : pl_C X Y id n pc a p1) (hd : decode cc p1 = .ok (.arraylength, 1)) : pl_C X Y Value.int n pc (e_rlen a) (p1 + 1) :=
  fun L st σ _ hw hk h => ha L st σ _ hw (fun v σ1 ⟨q, m, hv, hkd, h8, h2⟩ => by subst hv; exact j_rlen F hd hkd h8 (hk _ _ h2)) h
theorem c_if (F : pl_Fx X Y own cc) {α : Type} {em : α → Value} {c : pl_E Bool} {a b : pl_E α} {off : Int} (hc : pl_B X Y n pc c true p1 (p2 + 3)) (ha : pl_C X Y em n p1 a p2) (hd : decode cc p2 = .ok (.goto off, 3)) (ht : (p2 : Int) + off = (p3 : Int)) (hb : pl_C X Y em n (p2 + 3) b p3) : pl_C X Y em n pc (e_if c a b) p3 :=
  fun L st σ K hw hk h => hc L st σ _ hw (fun σ1 h1 => ha L st σ1 K hw (fun x σ2 h2 => j_goto F hd ht (hk x σ2 h2)) (by simpa using h1)) (fun σ1 h1 => hb L st σ1 K hw hk (by simpa using h1)) h
-- conditions: 'falls through where it is pol, jumps where it isn't'
def pl_neg : ClassFile.Cond → ClassFile.Cond
  | .eq => .ne
  | .ne => .eq
  | .lt => .ge
  | .ge => .lt
  | .gt => .le
  | .le => .gt
theorem pl_h_neg (o : ClassFile.Cond) (x y : Int32) : pl_h (pl_neg o) x y = !pl_h o x y := by
  have e1 : ∀ a b : Int32, decide (a ≤ b) = !decide (b < a) := by
    intro a b
    by_cases h : b < a
    · have : ¬ a ≤ b := Int32.not_le.mpr h
      simp [h, this]
    · have : a ≤ b := Int32.not_lt.mp h
      simp [h, this]
  cases o with
  | eq => simp [pl_h, pl_neg]
  | ne => simp [pl_h, pl_neg]
  | lt => simp only [pl_h, pl_neg]; exact e1 y x
  | ge => simp only [pl_h, pl_neg]; rw [e1 y x, Bool.not_not]
  | gt => simp only [pl_h, pl_neg]; exact e1 x y
  | le => simp only [pl_h, pl_neg]; rw [e1 x y, Bool.not_not]
/-- jumps where the condition holds -/
theorem b_cmp_f (F : pl_Fx X Y own cc) {o : ClassFile.Cond} {a b : pl_E Int32} {off : Int} (ha : pl_C X Y Value.int n pc a p1) (hb : pl_C X Y Value.int (n + 1) p1 b p2) (hd : decode cc p2 = .ok (.if_icmp o off, 3)) (ht : (p2 : Int) + off = (pj : Int)) : pl_B X Y n pc (b_cmp o a b) false (p2 + 3) pj :=
  fun L st σ K hw hf hj h => ha L st σ _ hw (fun x σ1 h1 => hb L (.int x :: st) σ1 _ (pl_wd1 hw) (fun y σ2 h2 => j_icmp F hd ht (fun z => hj σ2 (by rw [z] at h2; exact h2)) (fun z => hf σ2 (by rw [z] at h2; exact h2))) h1) h
theorem b_cmp_t (F : pl_Fx X Y own cc) {o : ClassFile.Cond} {a b : pl_E Int32} {off : Int} (ha : pl_C X Y Value.int n pc a p1) (hb : pl_C X Y Value.int (n + 1) p1 b p2) (hd : decode cc p2 = .ok (.if_icmp (pl_neg o) off, 3)) (ht : (p2 : Int) + off = (pj : Int)) : pl_B X Y n pc (b_cmp o a b) true (p2 + 3) pj :=
  fun L st σ K hw hf hj h => ha L st σ _ hw (fun x σ1 h1 => hb L (.int x :: st) σ1 _ (pl_wd1 hw) (fun y σ2 h2 => j_icmp F hd ht (fun z => hj σ2 (by rw [pl_h_neg] at z; rw [show pl_h o x y = false by simpa using z] at h2; exact h2)) (fun z => hf σ2 (by rw [pl_h_neg] at z; rw [show pl_h o x y = true by simpa using z] at h2; exact h2))) h1) h
theorem b_zero_f (F : pl_Fx X Y own cc) {o : ClassFile.Cond} {a : pl_E Int32} {off : Int} (ha : pl_C X Y Value.int n pc a p1) (hd : decode cc p1 = .ok (.ifCond o off, 3)) (ht : (p1 : Int) + off = (pj : Int)) : pl_B X Y n pc (b_zero o a) false (p1 + 3) pj :=
  fun L st σ K hw hf hj h => ha L st σ _ hw (fun x σ1 h1 => j_if F hd ht (fun z => hj σ1 (by rw [z] at h1; exact h1)) (fun z => hf σ1 (by rw [z] at h1; exact h1))) h
theorem b_zero_t (F : pl_Fx X Y own cc) {o : ClassFile.Cond} {a : pl_E Int32} {off : Int} (ha : pl_C X Y Value.int n pc a p1) (hd : decode cc p1 = .ok (.ifCond (pl_neg o) off, 3)) (ht : (p1 : Int) + off = (pj : Int)) : pl_B X Y n pc (b_zero o a) true (p1 + 3) pj :=
  fun L st σ K hw hf hj h => ha L st σ _ hw (fun x σ1 h1 => j_if F hd ht (fun z => hj σ1 (by rw [pl_h_neg] at z; rw [show pl_h o x 0 = false by simpa using z] at h1; exact h1)) (fun z => hf σ1 (by rw [pl_h_neg] at z; rw [show pl_h o x 0 = true by simpa using z] at h1; exact h1))) h
theorem b_lcmp_f (F : pl_Fx X Y own cc) {o : ClassFile.Cond} {a b : pl_E Int64} {off : Int} (ha : pl_C X Y Value.long n pc a p1) (hb : pl_C X Y Value.long (n + 2) p1 b p2) (hd : decode cc p2 = .ok (.lcmp, 1)) (hd2 : decode cc (p2 + 1) = .ok (.ifCond o off, 3)) (ht : ((p2 + 1 : Nat) : Int) + off = (pj : Int)) : pl_B X Y n pc (b_lcmp o a b) false (p2 + 1 + 3) pj :=
  fun L st σ K hw hf hj h => ha L st σ _ hw (fun x σ1 h1 => hb L (.long x :: st) σ1 _ (pl_wdl hw) (fun y σ2 h2 => j_lcmp F hd (j_if F hd2 ht (fun z => hj σ2 (by rw [z] at h2; exact h2)) (fun z => hf σ2 (by rw [z] at h2; exact h2)))) h1) h
theorem b_lcmp_t (F : pl_Fx X Y own cc) {o : ClassFile.Cond} {a b : pl_E Int64} {off : Int} (ha : pl_C X Y Value.long n pc a p1) (hb : pl_C X Y Value.long (n + 2) p1 b p2) (hd : decode cc p2 = .ok (.lcmp, 1)) (hd2 : decode cc (p2 + 1) = .ok (.ifCond (pl_neg o) off, 3)) (ht : ((p2 + 1 : Nat) : Int) + off = (pj : Int)) : pl_B X Y n pc (b_lcmp o a b) true (p2 + 1 + 3) pj :=
  fun L st σ K hw hf hj h => ha L st σ _ hw (fun x σ1 h1 => hb L (.long x :: st) σ1 _ (pl_wdl hw) (fun y σ2 h2 => j_lcmp F hd (j_if F hd2 ht (fun z => hj σ2 (by rw [pl_h_neg] at z; rw [show pl_h o (lg_cmp x y) 0 = false by simpa using z] at h2; exact h2)) (fun z => hf σ2 (by rw [pl_h_neg] at z; rw [show pl_h o (lg_cmp x y) 0 = true by simpa using z] at h2; exact h2)))) h1) h
theorem b_null_f (F : pl_Fx X Y own cc) {a : pl_E Value} {off : Int} (ha : pl_C X Y id n pc a p1) (hd : decode cc p1 = .ok (.ifnull off, 3)) (ht : (p1 : Int) + off = (pj : Int)) : pl_B X Y n pc (b_null a) false (p1 + 3) pj :=
  fun L st σ K hw hf hj h => ha L st σ _ hw (fun v σ1 h1 => j_ifnull F hd ht h1.1 (fun z => hj σ1 (by have h2 := h1.2; rw [show pl_isN v = true from z] at h2; exact h2)) (fun z => hf σ1 (by have h2 := h1.2; rw [show pl_isN v = false from z] at h2; exact h2))) h
theorem b_null_t (F : pl_Fx X Y own cc) {a : pl_E Value} {off : Int} (ha : pl_C X Y id n pc a p1) (hd : decode cc p1 = .ok (.ifnonnull off, 3)) (ht : (p1 : Int) + off = (pj : Int)) : pl_B X Y n pc (b_null a) true (p1 + 3) pj :=
  fun L st σ K hw hf hj h => ha L st σ _ hw (fun v σ1 h1 => j_ifnonnull F hd ht h1.1 (fun z => hj σ1 (by have h2 := h1.2; rw [show pl_isN v = false from z] at h2; exact h2)) (fun z => hf σ1 (by have h2 := h1.2; rw [show pl_isN v = true from z] at h2; exact h2))) h
theorem b_nn_f (F : pl_Fx X Y own cc) {a : pl_E Value} {off : Int} (ha : pl_C X Y id n pc a p1) (hd : decode cc p1 = .ok (.ifnonnull off, 3)) (ht : (p1 : Int) + off = (pj : Int)) : pl_B X Y n pc (b_nn a) false (p1 + 3) pj :=
  fun L st σ K hw hf hj h => ha L st σ _ hw (fun v σ1 h1 => j_ifnonnull F hd ht h1.1 (fun z => hj σ1 (by have h2 := h1.2; rw [show pl_isN v = false from z] at h2; exact h2)) (fun z => hf σ1 (by have h2 := h1.2; rw [show pl_isN v = true from z] at h2; exact h2))) h
theorem b_nn_t (F : pl_Fx X Y own cc) {a : pl_E Value} {off : Int} (ha : pl_C X Y id n pc a p1) (hd : decode cc p1 = .ok (.ifnull off, 3)) (ht : (p1 : Int) + off = (pj : Int)) : pl_B X Y n pc (b_nn a) true (p1 + 3) pj :=
  fun L st σ K hw hf hj h => ha L st σ _ hw (fun v σ1 h1 => j_ifnull F hd ht h1.1 (fun z => hj σ1 (by have h2 := h1.2; rw [show pl_isN v = true from z] at h2; exact h2)) (fun z => hf σ1 (by have h2 := h1.2; rw [show pl_isN v = false from z] at h2; exact h2))) h
theorem b_and_t {a b : pl_E Bool} (ha : pl_B X Y n pc a true p1 pj) (hb : pl_B X Y n p1 b true pf pj) : pl_B X Y n pc (b_and a b) true pf pj :=
  fun L st σ K hw hf hj h => ha L st σ _ hw (fun σ1 h1 => hb L st σ1 K hw hf hj (by simpa using h1)) (fun σ1 h1 => hj σ1 (by simpa using h1)) h
theorem b_and_f {a b : pl_E Bool} (ha : pl_B X Y n pc a true p1 pf) (hb : pl_B X Y n p1 b false pf pj) : pl_B X Y n pc (b_and a b) false pf pj :=
  fun L st σ K hw hf hj h => ha L st σ _ hw (fun σ1 h1 => hb L st σ1 K hw hf hj (by simpa using h1)) (fun σ1 h1 => hf σ1 (by simpa using h1)) h
theorem b_or_f {a b : pl_E Bool} (ha : pl_B X Y n pc a false p1 pj) (hb : pl_B X Y n p1 b false pf pj) : pl_B X Y n pc (b_or a b) false pf pj :=
  fun L st σ K hw hf hj h => ha L st σ _ hw (fun σ1 h1 => hb L st σ1 K hw hf hj (by simpa using h1)) (fun σ1 h1 => hj σ1 (by simpa using h1)) h
theorem b_or_t {a b : pl_E Bool} (ha : pl_B X Y n pc a false p1 pf) (hb : pl_B X Y n p1 b true pf pj) : pl_B X Y n pc (b_or a b) true pf pj :=
  fun L st σ K hw hf hj h => ha L st σ _ hw (fun σ1 h1 => hb L st σ1 K hw hf hj (by simpa using h1)) (fun σ1 h1 => hf σ1 (by simpa using h1)) h
theorem b_not_t {a : pl_E Bool} (ha : pl_B X Y n pc a false pf pj) : pl_B X Y n pc (b_not a) true pf pj :=
  fun L st σ K hw hf hj h => ha L st σ _ hw (fun σ1 h1 => hf σ1 h1) (fun σ1 h1 => hj σ1 h1) h
theorem b_not_f {a : pl_E Bool} (ha : pl_B X Y n pc a true pf pj) : pl_B X Y n pc (b_not a) false pf pj :=
  fun L st σ K hw hf hj h => ha L st σ _ hw (fun σ1 h1 => hf σ1 h1) (fun σ1 h1 => hj σ1 h1) h
-- statements
theorem d_skip : pl_D X Y pc s_skip pc := fun _ _ _ hk h => hk _ _ h
theorem d_seq {a b : pl_ST} (ha : pl_D X Y pc a p1) (hb : pl_D X Y p1 b p2) : pl_D X Y pc (s_seq a b) p2 := fun L σ K hk h => ha L σ _ (fun L1 σ1 h1 => hb L1 σ1 K hk h1) h
theorem pl_wd0 : pl_wd [] ≤ 0 := by simp [pl_wd]
theorem d_istore_n (F : pl_Fx X Y own cc) {k : Fin 4} {i : Nat} {e : pl_E Int32} (he : pl_C X Y Value.int 0 pc e p1) (hd : decode cc p1 = .ok (.istore_n k, 1)) (hi : (k : Nat) = i) (hn : i < (pl_xc X).maxLocals) : pl_D X Y pc (s_seti i e) (p1 + 1) :=
  fun L σ _ hk h => he L [] σ _ pl_wd0 (fun _ _ h1 => j_istore_n F hd hi hn (hk _ _ h1)) h
theorem d_istore (F : pl_Fx X Y own cc) {i : Nat} {e : pl_E Int32} (he : pl_C X Y Value.int 0 pc e p1) (hd : decode cc p1 = .ok (.istore i, 2)) (hn : i < (pl_xc X).maxLocals) : pl_D X Y pc (s_seti i e) (p1 + 2) :=
  fun L σ _ hk h => he L [] σ _ pl_wd0 (fun _ _ h1 => j_istore F hd hn (hk _ _ h1)) h
theorem d_lstore_n (F : pl_Fx X Y own cc) {k : Fin 4} {i : Nat} {e : pl_E Int64} (he : pl_C X Y Value.long 0 pc e p1) (hd : decode cc p1 = .ok (.lstore_n k, 1)) (hi : (k : Nat) = i) (hn : i + 1 < (pl_xc X).maxLocals) : pl_D X Y pc (s_setl i e) (p1 + 1) :=
  fun L σ _ hk h => he L [] σ _ pl_wd0 (fun _ _ h1 => j_lstore_n F hd hi hn (hk _ _ h1)) h
theorem d_lstore (F : pl_Fx X Y own cc) {i : Nat} {e : pl_E Int64} (he : pl_C X Y Value.long 0 pc e p1) (hd : decode cc p1 = .ok (.lstore i, 2)) (hn : i + 1 < (pl_xc X).maxLocals) : pl_D X Y pc (s_setl i e) (p1 + 2) :=
  fun L σ _ hk h => he L [] σ _ pl_wd0 (fun _ _ h1 => j_lstore F hd hn (hk _ _ h1)) h
theorem d_astore_n (F : pl_Fx X Y own cc) {k : Fin 4} {i : Nat} {e : pl_E Value} (he : pl_C X Y id 0 pc e p1) (hd : decode cc p1 = .ok (.astore_n k, 1)) (hi : (k : Nat) = i) (hn : i < (pl_xc X).maxLocals) : pl_D X Y pc (s_setr i e) (p1 + 1) :=
  fun L σ _ hk h => he L [] σ _ pl_wd0 (fun _ _ h1 => j_astore_n F hd hi hn h1.1 (hk _ _ h1.2)) h
theorem d_astore (F : pl_Fx X Y own cc) {i : Nat} {e : pl_E Value} (he : pl_C X Y id 0 pc e p1) (hd : decode cc p1 = .ok (.astore i, 2)) (hn : i < (pl_xc X).maxLocals) : pl_D X Y pc (s_setr i e) (p1 + 2) :=
  fun L σ _ hk h => he L [] σ _ pl_wd0 (fun _ _ h1 => j_astore F hd hn h1.1 (hk _ _ h1.2)) h
theorem d_iinc (F : pl_Fx X Y own cc) {i : Nat} {z : Int} {v : Int32} (hd : decode cc pc = .ok (.iinc i z, 3)) (hv : Int32.ofInt z = v) (hn : i < (pl_xc X).maxLocals) : pl_D X Y pc (s_inc i v) (pc + 3) :=
  fun L σ _ hk ⟨x, h1, h2⟩ => j_iinc F hd h1 (by rw [hv]) hn (hk _ _ h2)
theorem d_puti (F : pl_Fx X Y own cc) (c k : Nat) {o : pl_E Value} {e : pl_E Int32} {idx : Nat} (hf : pl_fp c k false false) (ho : pl_C X Y id 0 pc o p1) (he : pl_C X Y Value.int 2 p1 e p2) (hd : decode cc p2 = .ok (.putfield idx, 3)) (hw : Cond.fieldLink own idx (pl_F c k).1 (pl_F c k).2.1 (pl_F c k).2.2.1 ∈ pl_T) : pl_D X Y pc (s_puti c k o e) (p2 + 3) := by
  obtain ⟨⟨h4, hk, hrt⟩, hfin, hty⟩ := hf
  obtain ⟨r, hc, e1, e2⟩ := pl_r_of h4
  intro L σ K hk' h
  refine ho L [] σ _ pl_wd0 (fun v σ1 h1 => he L [v] σ1 _ (pl_wd2 pl_wd0) (fun x σ2 ⟨q, n1, hv, hkd, h2⟩ => ?_) h1) h
  subst hv
  have e0 : Value.int x = pl_sv (c + 5) k x := by unfold pl_sv; rw [if_neg (by rw [hrt]; decide)]
  rw [e0]
  exact j_put F c k hc (by rw [e2]; exact hk) (by rw [e1]; exact hw) (by rw [e1]) (by rw [e1]; exact hfin) hd hkd (fun z => by rw [z] at hty; cases hty) (fun z => by rw [hrt] at z; cases z) (hk' _ _ h2)
theorem d_putz (F : pl_Fx X Y own cc) (c k : Nat) {o : pl_E Value} {e : pl_E Int32} {idx : Nat} (hf : pl_fp c k false true) (ho : pl_C X Y id 0 pc o p1) (he : pl_C X Y Value.int 2 p1 e p2) (hd : decode cc p2 = .ok (.putfield idx, 3)) (hw : Cond.fieldLink own idx (pl_F c k).1 (pl_F c k).2.1 (pl_F c k).2.2.1 ∈ pl_T) : pl_D X Y pc (s_putz c k o e) (p2 + 3) := by
  obtain ⟨⟨h4, hk, hrt⟩, hfin, hty⟩ := hf
  obtain ⟨r, hc, e1, e2⟩ := pl_r_of h4
  intro L σ K hk' h
  refine ho L [] σ _ pl_wd0 (fun v σ1 h1 => he L [v] σ1 _ (pl_wd2 pl_wd0) (fun x σ2 ⟨q, n1, hv, hkd, hz, h2⟩ => ?_) h1) h
  subst hv
  have e0 : Value.int x = pl_sv (c + 5) k x := by unfold pl_sv; rw [if_neg (by rw [hrt]; decide)]
  rw [e0]
  exact j_put F c k hc (by rw [e2]; exact hk) (by rw [e1]; exact hw) (by rw [e1]) (by rw [e1]; exact hfin) hd hkd (fun _ => hz) (fun z => by rw [hrt] at z; cases z) (hk' _ _ h2)
theorem d_putr (F : pl_Fx X Y own cc) (c k : Nat) {o e : pl_E Value} {idx : Nat} (hf : pl_fp c k true false) (ho : pl_C X Y id 0 pc o p1) (he : pl_C X Y id 2 p1 e p2) (hd : decode cc p2 = .ok (.putfield idx, 3)) (hw : Cond.fieldLink own idx (pl_F c k).1 (pl_F c k).2.1 (pl_F c k).2.2.1 ∈ pl_T) : pl_D X Y pc (s_putr c k o e) (p2 + 3) := by
  obtain ⟨⟨h4, hk, hrt⟩, hfin, hty⟩ := hf
  obtain ⟨r, hc, e1, e2⟩ := pl_r_of h4
  intro L σ K hk' h
  refine ho L [] σ _ pl_wd0 (fun v σ1 h1 => he L [v] σ1 _ (pl_wd2 pl_wd0) (fun w σ2 ⟨q, n1, x, hv, hkd, hx, hok, h2⟩ => ?_) h1) h
  subst hv
  subst hx
  have e0 : id (pl_rv x) = pl_sv (c + 5) k x := by unfold pl_sv; rw [if_pos hrt]; rfl
  rw [e0]
  exact j_put F c k hc (by rw [e2]; exact hk) (by rw [e1]; exact hw) (by rw [e1]) (by rw [e1]; exact hfin) hd hkd (fun z => by rw [z] at hty; cases hty) (fun _ => hok) (hk' _ _ h2)
/-- o.f op= e -/
theorem d_updi (F : pl_Fx X Y own cc) (c k : Nat) {f : Int32 → Int32 → Int32} {o : pl_E Value} {e : pl_E Int32} {idx : Nat} (hf : pl_fp c k false false) (ho : pl_C X Y id 0 pc o p1) (hd0 : decode cc p1 = .ok (.dup, 1)) (hd1 : decode cc (p1 + 1) = .ok (.getfield idx, 3)) (he : pl_C X Y Value.int 4 (p1 + 1 + 3) e p2)
    (hj : ∀ {L st : List Value} {σ : pl_S} {x y : Int32}, pl_J X Y σ (p2 + 1) L (.int (f x y) :: st) → pl_J X Y σ p2 L (.int y :: .int x :: st)) (hd : decode cc (p2 + 1) = .ok (.putfield idx, 3)) (hw : Cond.fieldLink own idx (pl_F c k).1 (pl_F c k).2.1 (pl_F c k).2.2.1 ∈ pl_T) : pl_D X Y pc (s_updi c k f o e) (p2 + 1 + 3) := by
  obtain ⟨⟨h4, hk, hrt⟩, hfin, hty⟩ := hf
  obtain ⟨r, hc, e1, e2⟩ := pl_r_of h4
  intro L σ K hk' h
  refine ho L [] σ _ pl_wd0 (fun v σ1 ⟨q, n1, hv, hkd, h1⟩ => ?_) h
  subst hv
  refine j_dup F hd0 rfl ?_
  refine j_get F c k hc (by rw [e2]; exact hk) (by rw [e1]; exact hw) (by rw [e1]) hd1 hkd ?_
  have e3 : pl_sv (c + 5) k (σ1.2.1 q k) = .int (σ1.2.1 q k) := by unfold pl_sv; rw [if_neg (by rw [hrt]; decide)]
  rw [e3]
  refine he L [.int (σ1.2.1 q k), .ref q] σ1 _ (by simp [pl_wd, Value.category]) (fun y σ2 ⟨hkd2, h2⟩ => hj ?_) h1
  have e0 : Value.int (f (σ1.2.1 q k) y) = pl_sv (c + 5) k (f (σ1.2.1 q k) y) := by unfold pl_sv; rw [if_neg (by rw [hrt]; decide)]
  rw [e0]
  exact j_put F c k hc (by rw [e2]; exact hk) (by rw [e1]; exact hw) (by rw [e1]) (by rw [e1]; exact hfin) hd hkd2 (fun z => by rw [z] at hty; cases hty) (fun z => by rw [hrt] at z; cases z) (hk' _ _ h2)
theorem d_iast (F : pl_Fx X Y own cc) {a : pl_E Value} {i e : pl_E Int32} (ha : pl_C X Y id 0 pc a p1) (hi : pl_C X Y Value.int 2 p1 i p2) (he : pl_C X Y Value.int 3 p2 e p3) (hd : decode cc p3 = .ok (.iastore, 1)) : pl_D X Y pc (s_iast a i e) (p3 + 1) :=
  fun L σ K hk h => ha L [] σ _ pl_wd0 (fun v σ1 h1 => hi L [v] σ1 _ (pl_wd2 pl_wd0) (fun j σ2 h2 => he L [.int j, v] σ2 _ (pl_wd1 (pl_wd2 pl_wd0)) (fun x σ3 ⟨q, m, hv, hkd, hin, h3⟩ => by subst hv; exact j_iast F hd hkd hin (hk _ _ h3)) h2) h1) h
theorem d_zast (F : pl_Fx X Y own cc) {a : pl_E Value} {i e : pl_E Int32} (ha : pl_C X Y id 0 pc a p1) (hi : pl_C X Y Value.int 2 p1 i p2) (he : pl_C X Y Value.int 3 p2 e p3) (hd : decode cc p3 = .ok (.bastore, 1)) : pl_D X Y pc (s_zast a i e) (p3 + 1) :=
  fun L σ K hk h => ha L [] σ _ pl_wd0 (fun v σ1 h1 => hi L [v] σ1 _ (pl_wd2 pl_wd0) (fun j σ2 h2 => he L [.int j, v] σ2 _ (pl_wd1 (pl_wd2 pl_wd0)) (fun x σ3 ⟨q, m, hv, hkd, hin, hx, h3⟩ => by subst hv; exact j_zast F hd hkd hin hx (hk _ _ h3)) h2) h1) h
/-- a long[] gets an int made long -/
theorem d_last (F : pl_Fx X Y own cc) {a : pl_E Value} {i e : pl_E Int32} (ha : pl_C X Y id 0 pc a p1) (hi : pl_C X Y Value.int 2 p1 i p2) (he : pl_C X Y Value.int 3 p2 e p3) (hd0 : decode cc p3 = .ok (.i2l, 1)) (hd : decode cc (p3 + 1) = .ok (.lastore, 1)) : pl_D X Y pc (s_last a i e) (p3 + 1 + 1) :=
  fun L σ K hk h => ha L [] σ _ pl_wd0 (fun v σ1 h1 => hi L [v] σ1 _ (pl_wd2 pl_wd0) (fun j σ2 h2 => he L [.int j, v] σ2 _ (pl_wd1 (pl_wd2 pl_wd0)) (fun x σ3 ⟨q, m, hv, hkd, hin, h3⟩ => by subst hv; exact j_i2l F hd0 (j_last F hd hkd hin (hk _ _ h3))) h2) h1) h
theorem d_aast (F : pl_Fx X Y own cc) {a e : pl_E Value} {i : pl_E Int32} (ha : pl_C X Y id 0 pc a p1) (hi : pl_C X Y Value.int 2 p1 i p2) (he : pl_C X Y id 3 p2 e p3) (hd : decode cc p3 = .ok (.aastore, 1)) : pl_D X Y pc (s_aast a i e) (p3 + 1) :=
  fun L σ K hk h => ha L [] σ _ pl_wd0 (fun v σ1 h1 => hi L [v] σ1 _ (pl_wd2 pl_wd0) (fun j σ2 h2 => he L [.int j, v] σ2 _ (pl_wd1 (pl_wd2 pl_wd0)) (fun w σ3 ⟨q, m, x, n', hv, hkd, hin, hw, hx, hb, h3⟩ => by subst hv; subst hw; exact j_aast F hd hkd hin hx hb (hk _ _ h3)) h2) h1) h
/-- a[i] op= e -/
theorem d_iupd (F : pl_Fx X Y own cc) {f : Int32 → Int32 → Int32} {a : pl_E Value} {i e : pl_E Int32} (ha : pl_C X Y id 0 pc a p1) (hi : pl_C X Y Value.int 2 p1 i p2) (hd0 : decode cc p2 = .ok (.dup2, 1)) (hd1 : decode cc (p2 + 1) = .ok (.iaload, 1)) (he : pl_C X Y Value.int 4 (p2 + 1 + 1) e p3)
    (hj : ∀ {L st : List Value} {σ : pl_S} {x y : Int32}, pl_J X Y σ (p3 + 1) L (.int (f x y) :: st) → pl_J X Y σ p3 L (.int y :: .int x :: st)) (hd : decode cc (p3 + 1) = .ok (.iastore, 1)) : pl_D X Y pc (s_iupd f a i e) (p3 + 1 + 1) :=
  fun L σ K hk h => ha L [] σ _ pl_wd0 (fun v σ1 h1 => hi L [v] σ1 _ (pl_wd2 pl_wd0) (fun j σ2 ⟨q, m, hv, hkd, hin, h2⟩ => by
    subst hv
    refine j_dup2 F hd0 rfl rfl ?_
    refine j_iald F hd1 hkd hin ?_
    exact he L [.int (σ2.2.1 q j.toNatClampNeg), .int j, .ref q] σ2 _ (by simp [pl_wd, Value.category]) (fun y σ3 ⟨hkd3, h3⟩ => hj (j_iast F hd hkd3 hin (hk _ _ h3))) h2) h1) h
theorem d_if {c : pl_E Bool} {a : pl_ST} (hc : pl_B X Y 0 pc c true p1 p2) (ha : pl_D X Y p1 a p2) : pl_D X Y pc (s_if c a) p2 :=
  fun L σ K hk h => hc L [] σ _ pl_wd0 (fun σ1 h1 => ha L σ1 K hk (by simpa using h1)) (fun σ1 h1 => hk _ _ (by simpa using h1)) h
/-- both arms, the first ends in a goto -/
theorem d_ife (F : pl_Fx X Y own cc) {c : pl_E Bool} {a b : pl_ST} {off : Int} (hc : pl_B X Y 0 pc c true p1 (p2 + 3)) (ha : pl_D X Y p1 a p2) (hd : decode cc p2 = .ok (.goto off, 3)) (ht : (p2 : Int) + off = (p3 : Int)) (hb : pl_D X Y (p2 + 3) b p3) : pl_D X Y pc (s_ife c a b) p3 :=
  fun L σ K hk h => hc L [] σ _ pl_wd0 (fun σ1 h1 => ha L σ1 K (fun L2 σ2 h2 => j_goto F hd ht (hk L2 σ2 h2)) (by simpa using h1)) (fun σ1 h1 => hb L σ1 K hk (by simpa using h1)) h
/-- both arms, the first never falls out -/
theorem d_ifn {c : pl_E Bool} {a b : pl_ST} (hc : pl_B X Y 0 pc c true p1 p2) (ha : pl_D X Y p1 a p3) (hb : pl_D X Y p2 b p3) : pl_D X Y pc (s_ife c a b) p3 :=
  fun L σ K hk h => hc L [] σ _ pl_wd0 (fun σ1 h1 => ha L σ1 K hk (by simpa using h1)) (fun σ1 h1 => hb L σ1 K hk (by simpa using h1)) h
theorem d_while (F : pl_Fx X Y own cc) {c : pl_E Bool} {b : pl_ST} {off : Int} (hc : pl_B X Y 0 pc c true p1 (p2 + 3)) (hb : pl_D X Y p1 b p2) (hd : decode cc p2 = .ok (.goto off, 3)) (ht : (p2 : Int) + off = (pc : Int)) : pl_D X Y pc (s_while c b) (p2 + 3) :=
  fun L σ K hk h => h (fun L1 σ1 => pl_J X Y σ1 pc L1 []) (fun L1 σ1 h1 => hc L1 [] σ1 _ pl_wd0 (fun σ2 h2 => hb L1 σ2 _ (fun L3 σ3 h3 => j_goto F hd ht h3) (by simpa using h2)) (fun σ2 h2 => hk _ _ (by simpa using h2)) h1)
end Comb
end
section
/-! 05 A method's end, its contract, and calls -/
abbrev pl_P : Type := Nat → Option Value → pl_S → Prop
def pl_exn : Nat → String
  | 0 => "java/lang/IndexOutOfBoundsException"
  | 1 => "java/lang/IllegalArgumentException"
  | 2 => "java/lang/IllegalStateException"
  | _ => "java/lang/UnsupportedOperationException"
def pl_Qm (Y : pl_Y) (P : pl_P) : Array Value → State → Outcome → State → Prop := fun _ st o t =>
  (st.heap.size ≤ t.heap.size ∧ ∀ a : Nat, a < st.heap.size → ¬ pl_fr Y a → t.heap[a]? = st.heap[a]?) ∧ pl_KK Y.1 t ∧ ∃ (ad : Nat → Nat) (σ : pl_S), pl_Agr Y ad ∧ pl_Rep Y.1 ad σ t.heap ∧ (∀ q, pl_live σ q → (σ.1 q).1 ≠ 9 → pl_fr Y (ad q)) ∧ (∀ q, Y.2.2.1 q → pl_live σ q) ∧
    (pl_c0 Y ≤ σ.2.2.1 ∧ σ.2.2.1 ≤ pl_c0 Y + pl_mc Y ∧ pl_s0 Y ≤ σ.2.2.2 ∧ σ.2.2.2 ≤ pl_s0 Y + pl_ms Y) ∧
    ∃ r : Option Value, o = .returned (r.map (pl_re ad)) ∧ pl_lvl σ.1 r.toList ∧ P 0 r σ
def pl_Rt (X : pl_X) (Y : pl_Y) (P : pl_P) : Prop := ∀ t : State, MQ (pl_xb X) (pl_Qm Y P) (pl_xa X) (pl_xs X) (pl_mc Y) (pl_ms Y) (pl_fr Y) t → pl_xQ X t
theorem pl_Wmono {p : Program} {l : Launch} {e : Env} {R : Room} {s : State} {m : MethodId} {args : Array Value} {below : List Frame} {meth : Method} {c : Code} {H : Heap} {locs : List Loc} {cells slots : Nat} {Q Q' : State → Prop} {g : JFrame} (h : ∀ t, Q t → Q' t) (k : W p l e R s m args below meth c H locs cells slots Q g) : W p l e R s m args below meth c H locs cells slots Q' g := by
  intro T hT X
  obtain ⟨t, a, b⟩ := k T hT X
  exact ⟨t, a, h t b⟩
section Ends
variable {X : pl_X} {Y : pl_Y} {own : String} {cc : ByteArray} {σ : pl_S} {pc : Nat} {L st : List Value} {P : pl_P}
theorem pl_In.done {ad : Nat → Nat} {H : Heap} {locs : List Loc} {ls : Array Slot} (F : pl_Fx X Y own cc) (h : pl_In X Y σ L ad H locs ls) {r : Option Value} (hl : pl_lvl σ.1 r.toList) (hp : P 0 r σ) {t : State} (ht : t.heap = H) (hW : (pl_xs X).WarmedH t.vm) : pl_Qm Y P (pl_xa X) (pl_xs X) (.returned (r.map (pl_re ad))) t :=
  ⟨⟨by rw [ht]; exact h.2.2.1.1, fun a h1 h2 => by rw [ht]; exact h.2.2.1.2 a h1 h2⟩, F.2.2.2.2.1.moved hW, ad, σ, h.1, by rw [ht]; exact h.2.1, h.2.2.2.2.1, h.2.2.2.2.2.2.1, h.2.2.2.2.2.2.2, r, rfl, hl, hp⟩
theorem j_iret (F : pl_Fx X Y own cc) (hq : pl_Rt X Y P) {ty : FieldType} {x : Int32} (hr : (pl_xt X).sig.returnType = some ty) (hn : narrow ty (.int x) = .int x) (hd : decode cc pc = .ok (.ireturn, 1)) (hp : P 0 (some (.int x)) σ) : pl_J X Y σ pc L [.int x] := by
  intro ad H locs ls h hL hs
  have hc := h.2.2.2.2.2.2.2
  show W X.1 X.2.1 X.2.2.1 (pl_xR X) (pl_xs X) (pl_xm X) (pl_xa X) (pl_xb X) (pl_xt X) (pl_xc X) H locs _ _ (pl_xQ X) (F0 (pl_xm X) pc ls [.int x])
  refine pl_Wmono hq ?_
  refine W.widen (k := pl_mc Y) (n := pl_ms Y) (by omega) (by omega) ?_
  exact W.zret F.1 F.2.1 hr hn (fun t ht hW => h.done F (r := (some (.int x))) hs hp ht hW) h.2.2.2.1 hd F.2.2.2.2.2.1
theorem j_lret (F : pl_Fx X Y own cc) (hq : pl_Rt X Y P) {x : Int64} (hr : (pl_xt X).sig.returnType = some .long) (hd : decode cc pc = .ok (.lreturn, 1)) (hp : P 0 (some (.long x)) σ) : pl_J X Y σ pc L [.long x] := by
  intro ad H locs ls h hL hs
  have hc := h.2.2.2.2.2.2.2
  show W X.1 X.2.1 X.2.2.1 (pl_xR X) (pl_xs X) (pl_xm X) (pl_xa X) (pl_xb X) (pl_xt X) (pl_xc X) H locs _ _ (pl_xQ X) (F0 (pl_xm X) pc ls [.long x])
  refine pl_Wmono hq ?_
  refine W.widen (k := pl_mc Y) (n := pl_ms Y) (by omega) (by omega) ?_
  exact W.lret F.1 F.2.1 hr (fun t ht hW => h.done F (r := (some (.long x))) hs hp ht hW) h.2.2.2.1 hd F.2.2.2.2.2.1
theorem j_vret (F : pl_Fx X Y own cc) (hq : pl_Rt X Y P) (hr : (pl_xt X).sig.returnType = none) (hd : decode cc pc = .ok (.return_, 1)) (hp : P 0 none σ) : pl_J X Y σ pc L [] := by
  intro ad H locs ls h hL hs
  have hc := h.2.2.2.2.2.2.2
  show W X.1 X.2.1 X.2.2.1 (pl_xR X) (pl_xs X) (pl_xm X) (pl_xa X) (pl_xb X) (pl_xt X) (pl_xc X) H locs _ _ (pl_xQ X) (F0 (pl_xm X) pc ls [])
  refine pl_Wmono hq ?_
  refine W.widen (k := pl_mc Y) (n := pl_ms Y) (by omega) (by omega) ?_
  exact W.vret F.1 F.2.1 hr (fun t ht hW => h.done F (r := none) hs hp ht hW) h.2.2.2.1 hd F.2.2.2.2.2.1
theorem j_aret (F : pl_Fx X Y own cc) (hq : pl_Rt X Y P) {rt : FieldType} {v : Value} (hr : (pl_xt X).sig.returnType = some rt) (hrt : (∃ n, rt = .object n) ∨ ∃ t, rt = .array t) (hv : v.isRef = true) (hd : decode cc pc = .ok (.areturn, 1)) (hp : P 0 (some v) σ) : pl_J X Y σ pc L [v] := by
  intro ad H locs ls h hL hs
  have hc := h.2.2.2.2.2.2.2
  show W X.1 X.2.1 X.2.2.1 (pl_xR X) (pl_xs X) (pl_xm X) (pl_xa X) (pl_xb X) (pl_xt X) (pl_xc X) H locs _ _ (pl_xQ X) (F0 (pl_xm X) pc ls [pl_re ad v])
  refine pl_Wmono hq ?_
  refine W.widen (k := pl_mc Y) (n := pl_ms Y) (by omega) (by omega) ?_
  refine W.aret F.1 F.2.1 hr hrt ?_ (fun t ht hW => h.done F (r := (some v)) hs hp ht hW) h.2.2.2.1 hd F.2.2.2.2.2.1
  cases v with
  | ref q => exact Or.inr ⟨ad q, rfl⟩
  | null => exact Or.inl rfl
  | _ => simp [Value.isRef] at hv
def s_reti (P : pl_P) (e : pl_E Int32) : pl_ST := fun L σ _ => e L σ (fun x σ1 => P 0 (some (.int x)) σ1)
def s_retz (P : pl_P) (e : pl_E Int32) : pl_ST := fun L σ _ => e L σ (fun x σ1 => (x = 0 ∨ x = 1) ∧ P 0 (some (.int x)) σ1)
def s_retl (P : pl_P) (e : pl_E Int64) : pl_ST := fun L σ _ => e L σ (fun x σ1 => P 0 (some (.long x)) σ1)
def s_retr (P : pl_P) (e : pl_E Value) : pl_ST := fun L σ _ => e L σ (fun v σ1 => v.isRef = true ∧ P 0 (some v) σ1)
def s_retv (P : pl_P) : pl_ST := fun _ σ _ => P 0 none σ
variable {p1 p2 pe : Nat}
theorem d_reti (F : pl_Fx X Y own cc) (hq : pl_Rt X Y P) (hr : (pl_xt X).sig.returnType = some .int) {e : pl_E Int32} (he : pl_C X Y Value.int 0 pc e p1) (hd : decode cc p1 = .ok (.ireturn, 1)) : pl_D X Y pc (s_reti P e) pe :=
  fun L σ K _ h => he L [] σ _ pl_wd0 (fun x σ1 h1 => j_iret F hq hr rfl hd h1) h
theorem d_retz (F : pl_Fx X Y own cc) (hq : pl_Rt X Y P) (hr : (pl_xt X).sig.returnType = some .boolean) {e : pl_E Int32} (he : pl_C X Y Value.int 0 pc e p1) (hd : decode cc p1 = .ok (.ireturn, 1)) : pl_D X Y pc (s_retz P e) pe :=
  fun L σ K _ h => he L [] σ _ pl_wd0 (fun x σ1 h1 => j_iret F hq hr (by simp only [narrow, pl_and1 h1.1]) hd h1.2) h
theorem d_retl (F : pl_Fx X Y own cc) (hq : pl_Rt X Y P) (hr : (pl_xt X).sig.returnType = some .long) {e : pl_E Int64} (he : pl_C X Y Value.long 0 pc e p1) (hd : decode cc p1 = .ok (.lreturn, 1)) : pl_D X Y pc (s_retl P e) pe :=
  fun L σ K _ h => he L [] σ _ pl_wd0 (fun x σ1 h1 => j_lret F hq hr hd h1) h
theorem d_retr (F : pl_Fx X Y own cc) (hq : pl_Rt X Y P) {rt : String} (hr : (pl_xt X).sig.returnType = some (.object rt)) {e : pl_E Value} (he : pl_C X Y id 0 pc e p1) (hd : decode cc p1 = .ok (.areturn, 1)) : pl_D X Y pc (s_retr P e) pe :=
  fun L σ K _ h => he L [] σ _ pl_wd0 (fun v σ1 h1 => j_aret F hq hr (Or.inl ⟨rt, rfl⟩) h1.1 hd h1.2) h
theorem d_retv (F : pl_Fx X Y own cc) (hq : pl_Rt X Y P) (hr : (pl_xt X).sig.returnType = none) (hd : decode cc pc = .ok (.return_, 1)) : pl_D X Y pc (s_retv P) pe :=
  fun L σ K _ h => j_vret F hq hr hd h
end Ends
def pl_frO (ad0 : Nat → Nat) (σ0 : pl_S) (sz : Nat) : Nat → Prop := fun a => (∃ q, pl_live σ0 q ∧ (σ0.1 q).1 ≠ 9 ∧ a = ad0 q) ∨ sz ≤ a
/-- the contract of a method: what its transformer promises -/
def pl_Pm (G : pl_G) (ad0 : Nat → Nat) (σ0 : pl_S) (sz : Nat) (vs : List Value) : Array Value → State → Prop := fun a U => a = (vs.map (pl_re ad0)).toArray ∧ U.heap.size = sz ∧ pl_KK G U ∧ pl_Rep G ad0 σ0 U.heap ∧ pl_Zs G (pl_frO ad0 σ0 sz) U U.heap
theorem pl_Pm_blind (G : pl_G) (ad0 : Nat → Nat) (σ0 : pl_S) (sz : Nat) (vs : List Value) : FrameBlind (pl_Pm G ad0 σ0 sz vs) := fun a U g mk h => ⟨h.1, h.2.1, pl_KK.same (u := U) (U := U.calling g mk a) rfl h.2.2.1, h.2.2.2.1, pl_Zs.moved (u := U) (U := U.calling g mk a) (Vm.Alike.refl U.vm) h.2.2.2.2⟩
def pl_rm (d e mc ms : Nat) : Room := { frames := d, cells := mc, slots := ms, locals := e }
def pl_Yof (G : pl_G) (ad0 : Nat → Nat) (σ0 : pl_S) (al : Bool) (sz mc ms : Nat) : pl_Y := (G, ad0, pl_live σ0, al, pl_frO ad0 σ0 sz, σ0.2.2.1, σ0.2.2.2, mc, ms)
abbrev pl_TR : Type := pl_P → Nat → Nat → pl_ST
def pl_Ctr (l : Launch) (y : MethodName) (cc : ByteArray) (maxL : Nat) (ret : Option FieldType) (d e mc ms : Nat) (al : Bool) (tr : pl_TR) : Prop :=
  ∀ (G : pl_G) (ad0 : Nat → Nat) (σ0 : pl_S) (P : pl_P) (vs : List Value) (sz : Nat), (pl_fa vs).length ≤ maxL → pl_lvl σ0.1 vs → tr P (σ0.2.2.1 + mc) (σ0.2.2.2 + ms) (pl_pad vs maxL) σ0 (fun _ _ => False) →
    Met l y (Cond.code y cc maxL ret :: pl_T) (pl_rm d e mc ms) (pl_Pm G ad0 σ0 sz vs) (pl_Qm (pl_Yof G ad0 σ0 al sz mc ms) P) mc ms (pl_frO ad0 σ0 sz)
/-- what a body knows beside pl_Fx -/
def pl_Fm (X : pl_X) (Y : pl_Y) (P : pl_P) (l : Launch) (nm : String) (maxL : Nat) (ret : Option FieldType) (d e : Nat) (al : Bool) : Prop :=
  X.2.1 = l ∧ pl_Rt X Y P ∧ (pl_xt X).sig.returnType = ret ∧ (pl_xc X).maxLocals = maxL ∧ (pl_xt X).name = nm ∧ d ≤ (pl_xR X).frames ∧ e ≤ (pl_xR X).locals ∧ Y.2.2.2.1 = al
theorem pl_lv_fa {kd : Nat → Nat × Nat} : ∀ {vs : List Value}, pl_lvl kd vs → pl_lvl kd (pl_fa vs)
  | [], _ => trivial
  | w :: vs, h => by
    have e : pl_fa (w :: vs) = (if w.category = 2 then [w, pl_un] else [w]) ++ pl_fa vs := by simp [pl_fa]
    rw [e]
    refine pl_lv_app.mpr ⟨?_, pl_lv_fa h.2⟩
    split
    · exact ⟨h.1, pl_lv_un, trivial⟩
    · exact ⟨h.1, trivial⟩
theorem pl_lv_pad {kd : Nat → Nat × Nat} {vs : List Value} {n : Nat} (h : pl_lvl kd vs) : pl_lvl kd (pl_pad vs n) := by
  unfold pl_pad
  refine pl_lv_app.mpr ⟨pl_lv_fa h, pl_lv_iff.mpr (fun v hv => ?_)⟩
  rw [List.eq_of_mem_replicate hv]
  exact pl_lv_un
theorem pl_ctr_of {l : Launch} {y : MethodName} {cc : ByteArray} {maxL : Nat} {ret : Option FieldType} {d e mc ms pe : Nat} {al : Bool} {tr : pl_TR} (hy : plainName y.cls = true)
    (body : ∀ (X : pl_X) (Y : pl_Y) (P : pl_P), pl_Fx X Y y.cls cc → pl_Fm X Y P l y.name maxL ret d e al → pl_D X Y 0 (tr P (pl_c0 Y + pl_mc Y) (pl_s0 Y + pl_ms Y)) pe) : pl_Ctr l y cc maxL ret d e mc ms al tr := by
  intro G ad0 σ0 P vs sz hlen hlv htr
  refine Met.ofW (cc := cc) (maxL := maxL) (ret := ret) hy rfl ?_
  intro p ev s m args below meth c s₁ B hml hv
  obtain ⟨rfl, hsz, hK, hR, hZ⟩ := hv
  subst hsz
  have hts := atoms_spec (ws := Cond.code y cc maxL ret :: pl_T) B.pre
  let Y : pl_Y := pl_Yof G ad0 σ0 al s.heap.size mc ms
  let X : pl_X := (p, l, ev, pl_rm d e mc ms, s, m, (vs.map (pl_re ad0)).toArray, below, meth, c, MQ below (pl_Qm Y P) (vs.map (pl_re ad0)).toArray s mc ms (pl_frO ad0 σ0 s.heap.size))
  have F : pl_Fx X Y y.cls cc := ⟨B.exec, B.bytes, findClass_of_methodNamed B.named, fun w hw => hts w (List.mem_cons_of_mem _ hw), hK, B.notSynchronized, rfl, rfl, fun a ha => Or.inr ha, hZ⟩
  have Fm : pl_Fm X Y P l y.name maxL ret d e al := ⟨rfl, fun _ h => h, B.returns, hml, (name_of_methodNamed B.named B.method).1, Nat.le_refl _, Nat.le_refl _, rfl⟩
  have hLR : pl_LR ad0 ((lg_sl (vs.map (pl_re ad0)) ++ List.replicate (maxL - (lg_sl (vs.map (pl_re ad0))).length) Slot.unset).toArray) (pl_pad vs maxL) c.maxLocals := by
    rw [hml]
    exact pl_entry ad0 vs hlen
  have hin : pl_In X Y σ0 (pl_pad vs maxL) ad0 s.heap [] ((lg_sl (vs.map (pl_re ad0)) ++ List.replicate (maxL - (lg_sl (vs.map (pl_re ad0))).length) Slot.unset).toArray) :=
    ⟨⟨fun _ => rfl, fun _ _ => rfl⟩, hR, ⟨Nat.le_refl _, fun _ _ _ => rfl⟩, fun q hq => absurd hq List.not_mem_nil, fun q hq h9 => Or.inl ⟨q, hq, h9, rfl⟩, hLR, fun q hq => hq, Nat.le_refl _, Nat.le_add_right _ _, Nat.le_refl _, Nat.le_add_right _ _⟩
  have hj := body X Y P F Fm (pl_pad vs maxL) σ0 (fun _ _ => False) (fun _ _ h => h.elim) htr ad0 s.heap [] _ hin (pl_lv_pad hlv) trivial
  have hj2 : W p l ev (pl_rm d e mc ms) s m (vs.map (pl_re ad0)).toArray below meth c s.heap [] (σ0.2.2.1 - σ0.2.2.1) (σ0.2.2.2 - σ0.2.2.2) (MQ below (pl_Qm Y P) (vs.map (pl_re ad0)).toArray s mc ms (pl_frO ad0 σ0 s.heap.size)) (F0 m 0 ((lg_sl (vs.map (pl_re ad0)) ++ List.replicate (maxL - (lg_sl (vs.map (pl_re ad0))).length) Slot.unset).toArray) []) := hj
  rw [Nat.sub_self, Nat.sub_self] at hj2
  rw [lg_entry_eq]
  exact hj2
section Call
variable {X : pl_X} {Y : pl_Y} {own : String} {cc : ByteArray} {σ : pl_S} {pc : Nat} {L rest vs : List Value} {P : pl_P}
theorem pl_re_wd (ad : Nat → Nat) (st : List Value) : ((st.map (pl_re ad)).map fun v => v.category).sum = pl_wd st := by
  unfold pl_wd
  rw [List.map_map]
  congr 1
  apply List.map_congr_left
  intro v _
  exact pl_re_cat ad v
theorem pl_In.frO {ad : Nat → Nat} {H : Heap} {locs : List Loc} {ls : Array Slot} (F : pl_Fx X Y own cc) (h : pl_In X Y σ L ad H locs ls) : ∀ a, pl_frO ad σ H.size a → pl_fr Y a := by
  intro a ha
  rcases ha with ⟨q, q1, q2, rfl⟩ | ha
  · exact h.2.2.2.2.1 q q1 q2
  · exact F.2.2.2.2.2.2.2.2.1 a (Nat.le_trans h.2.2.1.1 ha)
/-- what a callee may rest on -/
theorem pl_In.pre {ad : Nat → Nat} {H : Heap} {locs : List Loc} {ls : Array Slot} (F : pl_Fx X Y own cc) (h : pl_In X Y σ L ad H locs ls) (vs : List Value) {U : State} (hU : U.heap = H) (hW : (pl_xs X).WarmedH U.vm) : pl_Pm Y.1 ad σ H.size vs (vs.map (pl_re ad)).toArray U := by
  refine ⟨rfl, by rw [hU], F.2.2.2.2.1.moved hW, by rw [hU]; exact h.2.1, ?_⟩
  rw [hU]
  exact ((F.2.2.2.2.2.2.2.2.2.kept (fun a h1 h2 => h.2.2.1.2 a h1 h2)).narrow (h.frO F)).moved hW.alike
/-- behind a call that makes nothing -/
theorem j_after (F : pl_Fx X Y own cc)
    (hrun : pl_lvl σ.1 vs → ∀ (ad : Nat → Nat) (H : Heap) (locs : List Loc) (ls : Array Slot), pl_In X Y σ L ad H locs ls → va_Run X.1 X.2.1 X.2.2.1 (pl_xR X) (pl_xs X) (pl_xm X) (pl_xa X) (pl_xb X) (pl_xt X) (pl_xc X) H locs (σ.2.2.1 - pl_c0 Y) (σ.2.2.2 - pl_s0 Y) 0 0
      (F0 (pl_xm X) pc ls ((vs.reverse ++ rest).map (pl_re ad))) (rest.map (pl_re ad)) (pl_Qm (pl_Yof Y.1 ad σ false H.size 0 0) P (vs.map (pl_re ad)).toArray) (pl_frO ad σ H.size))
    (kk : ∀ r σ', P 0 r σ' → pl_J X Y σ' (pc + 3) L (r.toList ++ rest)) : pl_J X Y σ pc L (vs.reverse ++ rest) := by
  intro ad H locs ls h hL0 hs T hT X0
  have hvs := pl_lv_app.mp hs
  obtain ⟨v, st₀, t, T', L2, h0, X', hL, e1, e2, hQ, st⟩   := hrun (pl_lv_rev.mp hvs.1) ad H locs ls h T hT X0
  obtain ⟨⟨hz, hun⟩, hK, ad', σ', hA, hR, hf, hl, hc, r, hr, hlr, hp⟩ := hQ
  have had : ad' = ad := hA.1 rfl
  subst had
  have hv : v = r.map (pl_re ad') := Outcome.returned.inj hr
  subst hv
  rw [h0] at hz hun
  have hc' : σ'.2.2.1 = σ.2.2.1 ∧ σ'.2.2.2 = σ.2.2.2 := by
    have a1 : σ.2.2.1 ≤ σ'.2.2.1 := hc.1
    have a2 : σ'.2.2.1 ≤ σ.2.2.1 + 0 := hc.2.1
    have a3 : σ.2.2.2 ≤ σ'.2.2.2 := hc.2.2.1
    have a4 : σ'.2.2.2 ≤ σ.2.2.2 + 0 := hc.2.2.2
    exact ⟨by omega, by omega⟩
  have hfr := h.frO F
  have hin : pl_In X Y σ' L ad' T'.heap (locs ++ L2) ls := by
    refine ⟨h.1, by rw [e1]; exact hR, ⟨by rw [e1]; exact Nat.le_trans h.2.2.1.1 hz, fun a h1 h2 => ?_⟩, fun q hq => ?_, fun q hq h9 => hfr _ (hf q hq h9), h.2.2.2.2.2.1, fun q hq => hl q (h.2.2.2.2.2.2.1 q hq), ?_⟩
    · rw [e1, hun a (Nat.lt_of_lt_of_le h1 h.2.2.1.1) (fun z => h2 (hfr a z))]
      exact h.2.2.1.2 a h1 h2
    · rcases List.mem_append.mp hq with hq | hq
      · exact h.2.2.2.1 q hq
      · exact hfr _ (hL q hq)
    · rw [hc'.1, hc'.2]
      exact h.2.2.2.2.2.2.2
  have hg := kk r σ' hp ad' T'.heap (locs ++ L2) ls hin (pl_lv_mono hl hL0) (pl_lv_app.mpr ⟨hlr, pl_lv_mono hl hvs.2⟩)
  rw [hc'.1, hc'.2] at hg
  have hst : (r.toList ++ rest).map (pl_re ad') = (r.map (pl_re ad')).toList ++ rest.map (pl_re ad') := by cases r <;> simp
  rw [hst] at hg
  obtain ⟨t2, a1, b1⟩ := hg T' rfl X'
  exact ⟨t2, st t2 a1, b1⟩
end Call
end
section
/-! 06 Calls by their kinds -/
abbrev pl_A : Type := List Value → pl_S → (List Value → pl_S → Prop) → Prop
def a_nil : pl_A := fun _ σ K => K [] σ
def a_i (a : pl_A) (e : pl_E Int32) : pl_A := fun L σ K => a L σ (fun vs σ1 => e L σ1 (fun x σ2 => K (vs ++ [.int x]) σ2))
def a_l (a : pl_A) (e : pl_E Int64) : pl_A := fun L σ K => a L σ (fun vs σ1 => e L σ1 (fun x σ2 => K (vs ++ [.long x]) σ2))
def a_r (a : pl_A) (e : pl_E Value) : pl_A := fun L σ K => a L σ (fun vs σ1 => e L σ1 (fun v σ2 => v.isRef = true ∧ K (vs ++ [v]) σ2))
def pl_AA (X : pl_X) (Y : pl_Y) (n k m pc : Nat) (a : pl_A) (pc' : Nat) : Prop :=
  ∀ (L st : List Value) (σ : pl_S) (K : List Value → pl_S → Prop), pl_wd st ≤ n → (∀ vs σ', pl_wd vs = k → vs.length = m → K vs σ' → pl_J X Y σ' pc' L (vs.reverse ++ st)) → a L σ K → pl_J X Y σ pc L st
theorem pl_wd_app (a b : List Value) : pl_wd (a ++ b) = pl_wd a + pl_wd b := by simp [pl_wd]
theorem pl_wd_rev (a : List Value) : pl_wd a.reverse = pl_wd a := by
  induction a with
  | nil => rfl
  | cons v a ih => rw [List.reverse_cons, pl_wd_app, ih, pl_wd_cons, pl_wd_cons]; simp [pl_wd]; omega
theorem pl_fa_wd (vs : List Value) : (pl_fa vs).length = pl_wd vs := by
  induction vs with
  | nil => rfl
  | cons w vs ih =>
    have e2 : pl_fa (w :: vs) = (if w.category = 2 then [w, pl_un] else [w]) ++ pl_fa vs := by simp [pl_fa]
    rw [e2, List.length_append, ih, pl_wd_cons]
    rcases lv_cat w with hc | hc
    · simp [hc]
    · simp [hc]
theorem pl_isRef_cat {v : Value} (h : v.isRef = true) : v.category = 1 := by cases v <;> first | rfl | simp [Value.isRef] at h
theorem pl_goodc {y : MethodName} {bytes : ByteArray} {maxL : Nat} {ret : Option FieldType} (h : Cond.code y bytes maxL ret ∈ pl_T) : GoodIn pl_T (Cond.code y bytes maxL ret :: pl_T) := by
  intro w hw
  rcases List.mem_cons.mp hw with rfl | hw
  · exact pl_good _ h
  · exact pl_good _ hw
def pl_MS (y : MethodName) (bytes : ByteArray) (maxL : Nat) (ret : Option FieldType) (n : Nat) : Prop :=
  Cond.code y bytes maxL ret ∈ pl_T ∧ Cond.static y ∈ pl_T ∧ Cond.initialized y.cls ∈ pl_T ∧ (y.cls ≠ "java/lang/invoke/MethodHandle" ∧ y.cls ≠ "java/lang/invoke/VarHandle" ∧ (parseMethodDescriptor y.desc).map (fun d => d.parameters.length) = some n)
def pl_MV (c : Nat) (y : MethodName) (bytes : ByteArray) (maxL : Nat) (ret : Option FieldType) (n : Nat) : Prop :=
  Cond.code y bytes maxL ret ∈ pl_T ∧ Cond.instanceMethod y ∈ pl_T ∧ Cond.selects y.cls y y ∈ pl_T ∧ Cond.initialized y.cls ∈ pl_T ∧ (y.cls ≠ "java/lang/invoke/MethodHandle" ∧ y.cls ≠ "java/lang/invoke/VarHandle" ∧ (parseMethodDescriptor y.desc).map (fun d => d.parameters.length) = some n) ∧ ∃ r : vw_C, pl_cl[c]? = some r ∧ r.1 = y.cls
section Invoke
variable {X : pl_X} {Y : pl_Y} {own : String} {cc : ByteArray} {n k m pc p1 p2 : Nat}
theorem a_nil_ok : pl_AA X Y n 0 0 pc a_nil pc := fun L st σ K hw hk h => hk [] σ rfl rfl h
theorem a_i_ok {a : pl_A} {e : pl_E Int32} (ha : pl_AA X Y n k m pc a p1) (he : pl_C X Y Value.int (n + k) p1 e p2) : pl_AA X Y n (k + 1) (m + 1) pc (a_i a e) p2 :=
  fun L st σ K hw hk h => ha L st σ _ hw (fun vs σ1 h1 h2 h3 => he L (vs.reverse ++ st) σ1 _ (by rw [pl_wd_app, pl_wd_rev]; omega) (fun x σ2 h4 => by
    have h5 := hk (vs ++ [.int x]) σ2 (by rw [pl_wd_app, h1]; simp [pl_wd, Value.category]) (by simp [h2]) h4
    simpa using h5) h3) h
theorem a_l_ok {a : pl_A} {e : pl_E Int64} (ha : pl_AA X Y n k m pc a p1) (he : pl_C X Y Value.long (n + k) p1 e p2) : pl_AA X Y n (k + 2) (m + 1) pc (a_l a e) p2 :=
  fun L st σ K hw hk h => ha L st σ _ hw (fun vs σ1 h1 h2 h3 => he L (vs.reverse ++ st) σ1 _ (by rw [pl_wd_app, pl_wd_rev]; omega) (fun x σ2 h4 => by
    have h5 := hk (vs ++ [.long x]) σ2 (by rw [pl_wd_app, h1]; simp [pl_wd, Value.category]) (by simp [h2]) h4
    simpa using h5) h3) h
theorem a_r_ok {a : pl_A} {e : pl_E Value} (ha : pl_AA X Y n k m pc a p1) (he : pl_C X Y id (n + k) p1 e p2) : pl_AA X Y n (k + 1) (m + 1) pc (a_r a e) p2 :=
  fun L st σ K hw hk h => ha L st σ _ hw (fun vs σ1 h1 h2 h3 => he L (vs.reverse ++ st) σ1 _ (by rw [pl_wd_app, pl_wd_rev]; omega) (fun v σ2 h4 => by
    have hc := pl_isRef_cat h4.1
    have h5 := hk (vs ++ [v]) σ2 (by rw [pl_wd_app, h1]; simp [pl_wd, hc]) (by simp [h2]) h4.2
    simpa using h5) h3) h
variable {σ : pl_S} {L rest vs : List Value} {P : pl_P} {y : MethodName} {bytes : ByteArray} {maxL d e idx c : Nat} {ret : Option FieldType} {tr : pl_TR}
abbrev pl_Run (X : pl_X) (Y : pl_Y) (σ : pl_S) (pc : Nat) (L vs rest : List Value) (P : pl_P) : Prop :=
  pl_lvl σ.1 vs → ∀ (ad : Nat → Nat) (H : Heap) (locs : List Loc) (ls : Array Slot), pl_In X Y σ L ad H locs ls → va_Run X.1 X.2.1 X.2.2.1 (pl_xR X) (pl_xs X) (pl_xm X) (pl_xa X) (pl_xb X) (pl_xt X) (pl_xc X) H locs (σ.2.2.1 - pl_c0 Y) (σ.2.2.2 - pl_s0 Y) 0 0
      (F0 (pl_xm X) pc ls ((vs.reverse ++ rest).map (pl_re ad))) (rest.map (pl_re ad)) (pl_Qm (pl_Yof Y.1 ad σ false H.size 0 0) P (vs.map (pl_re ad)).toArray) (pl_frO ad σ H.size)
theorem pl_room {ad : Nat → Nat} {H : Heap} {locs : List Loc} {ls : Array Slot} (F : pl_Fx X Y own cc) (h : pl_In X Y σ L ad H locs ls) : σ.2.2.1 - pl_c0 Y + 0 ≤ (pl_xR X).cells ∧ σ.2.2.2 - pl_s0 Y + 0 ≤ (pl_xR X).slots := by
  have hc := h.2.2.2.2.2.2.2
  have h1 := F.2.2.2.2.2.2.1
  have h2 := F.2.2.2.2.2.2.2.1
  exact ⟨by omega, by omega⟩
theorem pl_runS (F : pl_Fx X Y own cc) (hM : pl_Ctr X.2.1 y bytes maxL ret d e 0 0 false tr) (hm : pl_MS y bytes maxL ret vs.length) (hl : Cond.methodLink own idx y ∈ pl_T) (hR : d + 1 ≤ (pl_xR X).frames ∧ 8 + (maxL + 11) + e ≤ (pl_xR X).locals) (hw : pl_wd rest ≤ 8) (hdg : decode cc pc = .ok (.invokestatic idx, 3)) (hlen : pl_wd vs ≤ maxL)
    (htr : tr P σ.2.2.1 σ.2.2.2 (pl_pad vs maxL) σ (fun _ _ => False)) : pl_Run X Y σ pc L vs rest P := by
  intro hlv ad H locs ls h
  obtain ⟨h1, h2, h3, h4⟩ := hm
  exact va_runS (As := vs.map (pl_re ad)) (rest := rest.map (pl_re ad)) (nL := (pl_xc X).maxLocals) ⟨F.1, F.2.1, rfl, F.2.2.1, F.2.2.2.1⟩ (hM Y.1 ad σ P vs H.size (by rw [pl_fa_wd]; exact hlen) hlv htr)
    ⟨callB_of vs.length F.2.2.2.1 (pl_goodc h1) rfl rfl rfl (F.2.2.2.1 _ h3) (F.2.2.2.1 _ hl) h4 hR, F.2.2.2.1 _ h2⟩
    ⟨pl_Pm_blind _ _ _ _ _, fun U hU hW => h.pre F vs hU hW⟩ rfl (by simp) h.2.2.2.2.2.1.1 (by simp) (lv_room (by rw [pl_re_wd]; exact hw)) hdg (pl_room F h)
theorem pl_runSN (F : pl_Fx X Y own cc) {host : String} (hM : pl_Ctr X.2.1 y bytes maxL ret d e 0 0 false tr) (hm : pl_MS y bytes maxL ret vs.length) (hl : Cond.methodLinkNest own idx y host ∈ pl_N) (hR : d + 1 ≤ (pl_xR X).frames ∧ 8 + (maxL + 11) + e ≤ (pl_xR X).locals) (hw : pl_wd rest ≤ 8) (hdg : decode cc pc = .ok (.invokestatic idx, 3)) (hlen : pl_wd vs ≤ maxL)
    (htr : tr P σ.2.2.1 σ.2.2.2 (pl_pad vs maxL) σ (fun _ _ => False)) : pl_Run X Y σ pc L vs rest P := by
  intro hlv ad H locs ls h
  obtain ⟨h1, h2, h3, h4⟩ := hm
  exact va_runSN (As := vs.map (pl_re ad)) (rest := rest.map (pl_re ad)) (nL := (pl_xc X).maxLocals) ⟨F.1, F.2.1, rfl, F.2.2.1, F.2.2.2.1⟩ (hM Y.1 ad σ P vs H.size (by rw [pl_fa_wd]; exact hlen) hlv htr)
    ⟨va_cnB vs.length F.2.2.2.1 (pl_goodc h1) rfl rfl rfl (F.2.2.2.2.1.2.2 _ hl) (F.2.2.2.1 _ h3) h4 hR, F.2.2.2.1 _ h2, trivial⟩
    ⟨pl_Pm_blind _ _ _ _ _, fun U hU hW => h.pre F vs hU hW⟩ rfl (by simp) h.2.2.2.2.2.1.1 (by simp) (lv_room (by rw [pl_re_wd]; exact hw)) hdg (pl_room F h)
theorem pl_runV (F : pl_Fx X Y own cc) {q nq : Nat} {as : List Value} (hkd : σ.1 q = (c + 5, nq)) (hM : pl_Ctr X.2.1 y bytes maxL ret d e 0 0 false tr) (hm : pl_MV c y bytes maxL ret as.length) (hl : Cond.methodLink own idx y ∈ pl_T) (hR : d + 1 ≤ (pl_xR X).frames ∧ 8 + (maxL + 11) + e ≤ (pl_xR X).locals) (hw : pl_wd rest ≤ 8) (hdg : decode cc pc = .ok (.invokevirtual idx, 3)) (hlen : pl_wd (.ref q :: as) ≤ maxL)
    (htr : tr P σ.2.2.1 σ.2.2.2 (pl_pad (.ref q :: as) maxL) σ (fun _ _ => False)) : pl_Run X Y σ pc L (.ref q :: as) rest P := by
  intro hlv ad H locs ls h
  obtain ⟨h1, h2, h3, h4, h5, r, hc, hr⟩ := hm
  obtain ⟨cell, g1, g2, g3, -⟩ := h.obj hc hkd
  have hcls := (F.2.2.2.2.1.1.1 c r hc).2.1
  exact va_runV (As := as.map (pl_re ad)) (b := ad q) (C := y.cls) (rest := rest.map (pl_re ad)) (nL := (pl_xc X).maxLocals) ⟨F.1, F.2.1, rfl, F.2.2.1, F.2.2.2.1⟩ (hM Y.1 ad σ P (.ref q :: as) H.size (by rw [pl_fa_wd]; exact hlen) hlv htr)
    ⟨callB_of as.length F.2.2.2.1 (pl_goodc h1) rfl rfl rfl (F.2.2.2.1 _ h4) (F.2.2.2.1 _ hl) h5 hR, F.2.2.2.1 _ h2, F.2.2.2.1 _ h3⟩
    ⟨pl_Pm_blind _ _ _ _ _, ⟨cell, g1, by rw [g3]; rfl, by rw [g2, ← hr]; exact hcls⟩, fun U hU hW => h.pre F (.ref q :: as) hU hW⟩ rfl (by simp) h.2.2.2.2.2.1.1 (by simp [pl_re]) (lv_room (by rw [pl_re_wd]; exact hw)) hdg (pl_room F h)
-- what a call is worth
def pl_PI {α : Type} (em : α → Value) (K : α → pl_S → Prop) : pl_P := fun t r σ => t = 0 ∧ ∃ x, r = some (em x) ∧ K x σ
def pl_PV (K : pl_S → Prop) : pl_P := fun t r σ => t = 0 ∧ r = none ∧ K σ
def e_callS {α : Type} (em : α → Value) (tr : pl_TR) (maxL : Nat) (a : pl_A) : pl_E α := fun L σ K => a L σ (fun vs σ1 => tr (pl_PI em K) σ1.2.2.1 σ1.2.2.2 (pl_pad vs maxL) σ1 (fun _ _ => False))
def e_callV {α : Type} (em : α → Value) (c : Nat) (tr : pl_TR) (maxL : Nat) (a : pl_A) : pl_E α := fun L σ K => a L σ (fun vs σ1 => (∃ q nq as, vs = .ref q :: as ∧ σ1.1 q = (c + 5, nq)) ∧ tr (pl_PI em K) σ1.2.2.1 σ1.2.2.2 (pl_pad vs maxL) σ1 (fun _ _ => False))
def s_callS (tr : pl_TR) (maxL : Nat) (a : pl_A) : pl_ST := fun L σ K => a L σ (fun vs σ1 => tr (pl_PV (K L)) σ1.2.2.1 σ1.2.2.2 (pl_pad vs maxL) σ1 (fun _ _ => False))
def s_callV (c : Nat) (tr : pl_TR) (maxL : Nat) (a : pl_A) : pl_ST := fun L σ K => a L σ (fun vs σ1 => (∃ q nq as, vs = .ref q :: as ∧ σ1.1 q = (c + 5, nq)) ∧ tr (pl_PV (K L)) σ1.2.2.1 σ1.2.2.2 (pl_pad vs maxL) σ1 (fun _ _ => False))
theorem c_callS {α : Type} {em : α → Value} (F : pl_Fx X Y own cc) {a : pl_A} (ha : pl_AA X Y n k m pc a p1) (hM : pl_Ctr X.2.1 y bytes maxL ret d e 0 0 false tr) (hm : pl_MS y bytes maxL ret m) (hl : Cond.methodLink own idx y ∈ pl_T) (hdg : decode cc p1 = .ok (.invokestatic idx, 3)) (hR : d + 1 ≤ (pl_xR X).frames ∧ 8 + (maxL + 11) + e ≤ (pl_xR X).locals) (hn : n ≤ 8) (hk : k ≤ maxL) : pl_C X Y em n pc (e_callS em tr maxL a) (p1 + 3) :=
  fun L st σ K hw hkk h => ha L st σ _ hw (fun vs σ1 h1 h2 h3 => j_after F (pl_runS F hM (by rw [h2]; exact hm) hl hR (Nat.le_trans hw hn) hdg (by rw [h1]; exact hk) h3) (fun r σ' ⟨_, x, hr, hK⟩ => by subst hr; exact hkk x σ' hK)) h
theorem c_callSN {α : Type} {em : α → Value} (F : pl_Fx X Y own cc) {host : String} {a : pl_A} (ha : pl_AA X Y n k m pc a p1) (hM : pl_Ctr X.2.1 y bytes maxL ret d e 0 0 false tr) (hm : pl_MS y bytes maxL ret m) (hl : Cond.methodLinkNest own idx y host ∈ pl_N) (hdg : decode cc p1 = .ok (.invokestatic idx, 3)) (hR : d + 1 ≤ (pl_xR X).frames ∧ 8 + (maxL + 11) + e ≤ (pl_xR X).locals) (hn : n ≤ 8) (hk : k ≤ maxL) : pl_C X Y em n pc (e_callS em tr maxL a) (p1 + 3) :=
  fun L st σ K hw hkk h => ha L st σ _ hw (fun vs σ1 h1 h2 h3 => j_after F (pl_runSN F hM (by rw [h2]; exact hm) hl hR (Nat.le_trans hw hn) hdg (by rw [h1]; exact hk) h3) (fun r σ' ⟨_, x, hr, hK⟩ => by subst hr; exact hkk x σ' hK)) h
theorem c_callV {α : Type} {em : α → Value} (F : pl_Fx X Y own cc) {a : pl_A} (ha : pl_AA X Y n k (m + 1) pc a p1) (hM : pl_Ctr X.2.1 y bytes maxL ret d e 0 0 false tr) (hm : pl_MV c y bytes maxL ret m) (hl : Cond.methodLink own idx y ∈ pl_T) (hdg : decode cc p1 = .ok (.invokevirtual idx, 3)) (hR : d + 1 ≤ (pl_xR X).frames ∧ 8 + (maxL + 11) + e ≤ (pl_xR X).locals) (hn : n ≤ 8) (hk : k ≤ maxL) : pl_C X Y em n pc (e_callV em c tr maxL a) (p1 + 3) :=
  fun L st σ K hw hkk h => ha L st σ _ hw (fun vs σ1 h1 h2 ⟨⟨q, nq, as, hvs, hkd⟩, h3⟩ => by
    subst hvs
    have h4 : as.length = m := by simpa using h2
    exact j_after F (pl_runV F hkd hM (by rw [h4]; exact hm) hl hR (Nat.le_trans hw hn) hdg (by rw [h1]; exact hk) h3) (fun r σ' ⟨_, x, hr, hK⟩ => by subst hr; exact hkk x σ' hK)) h
theorem d_callS (F : pl_Fx X Y own cc) {a : pl_A} (ha : pl_AA X Y 0 k m pc a p1) (hM : pl_Ctr X.2.1 y bytes maxL ret d e 0 0 false tr) (hm : pl_MS y bytes maxL ret m) (hl : Cond.methodLink own idx y ∈ pl_T) (hdg : decode cc p1 = .ok (.invokestatic idx, 3)) (hR : d + 1 ≤ (pl_xR X).frames ∧ 8 + (maxL + 11) + e ≤ (pl_xR X).locals) (hk : k ≤ maxL) : pl_D X Y pc (s_callS tr maxL a) (p1 + 3) :=
  fun L σ K hkk h => ha L [] σ _ pl_wd0 (fun vs σ1 h1 h2 h3 => j_after F (pl_runS F hM (by rw [h2]; exact hm) hl hR (by decide) hdg (by rw [h1]; exact hk) h3) (fun r σ' ⟨_, hr, hK⟩ => by subst hr; exact hkk _ σ' hK)) h
theorem d_callSN (F : pl_Fx X Y own cc) {host : String} {a : pl_A} (ha : pl_AA X Y 0 k m pc a p1) (hM : pl_Ctr X.2.1 y bytes maxL ret d e 0 0 false tr) (hm : pl_MS y bytes maxL ret m) (hl : Cond.methodLinkNest own idx y host ∈ pl_N) (hdg : decode cc p1 = .ok (.invokestatic idx, 3)) (hR : d + 1 ≤ (pl_xR X).frames ∧ 8 + (maxL + 11) + e ≤ (pl_xR X).locals) (hk : k ≤ maxL) : pl_D X Y pc (s_callS tr maxL a) (p1 + 3) :=
  fun L σ K hkk h => ha L [] σ _ pl_wd0 (fun vs σ1 h1 h2 h3 => j_after F (pl_runSN F hM (by rw [h2]; exact hm) hl hR (by decide) hdg (by rw [h1]; exact hk) h3) (fun r σ' ⟨_, hr, hK⟩ => by subst hr; exact hkk _ σ' hK)) h
theorem d_callV (F : pl_Fx X Y own cc) {a : pl_A} (ha : pl_AA X Y 0 k (m + 1) pc a p1) (hM : pl_Ctr X.2.1 y bytes maxL ret d e 0 0 false tr) (hm : pl_MV c y bytes maxL ret m) (hl : Cond.methodLink own idx y ∈ pl_T) (hdg : decode cc p1 = .ok (.invokevirtual idx, 3)) (hR : d + 1 ≤ (pl_xR X).frames ∧ 8 + (maxL + 11) + e ≤ (pl_xR X).locals) (hk : k ≤ maxL) : pl_D X Y pc (s_callV c tr maxL a) (p1 + 3) :=
  fun L σ K hkk h => ha L [] σ _ pl_wd0 (fun vs σ1 h1 h2 ⟨⟨q, nq, as, hvs, hkd⟩, h3⟩ => by
    subst hvs
    have h4 : as.length = m := by simpa using h2
    exact j_after F (pl_runV F hkd hM (by rw [h4]; exact hm) hl hR (by decide) hdg (by rw [h1]; exact hk) h3) (fun r σ' ⟨_, hr, hK⟩ => by subst hr; exact hkk _ σ' hK)) h
/-- Math.max, Math.min -/
def pl_max (x y : Int32) : Int32 := if x < y then y else x
def pl_min (x y : Int32) : Int32 := if y < x then y else x
theorem c_max (F : pl_Fx X Y own cc) {a b : pl_E Int32} (ha : pl_C X Y Value.int n pc a p1) (hb : pl_C X Y Value.int (n + 1) p1 b p2) (hd : decode cc p2 = .ok (.invokestatic idx, 3)) (hl : Cond.methodLink own idx Lib.Math.max.name ∈ pl_T) (hm : Cond.static Lib.Math.max.name ∈ pl_T ∧ Cond.initialized "java/lang/Math" ∈ pl_T ∧ Cond.code Lib.Math.max.name Lib.Math.max.code 2 (some .int) ∈ pl_T) (hR : 1 ≤ (pl_xR X).frames ∧ 21 ≤ (pl_xR X).locals) (hn : n ≤ 8) : pl_C X Y Value.int n pc (e_bin pl_max a b) (p2 + 3) :=
  fun L st σ K hw hk h => ha L st σ _ hw (fun x σ1 h1 => hb L (.int x :: st) σ1 _ (pl_wd1 hw) (fun y σ2 h2 => fun ad H locs ls hI hL hs =>
    va_mmax F.1 F.2.1 hI.2.2.2.2.2.1.1.symm F.2.2.1 (F.2.2.2.1 _ hl) (F.2.2.2.1 _ hm.1) (F.2.2.2.1 _ hm.2.1) (F.2.2.2.1 _ hm.2.2) hR.1 (by rw [pl_re_wd]; omega) (pl_room F hI).1 (pl_room F hI).2 hd (hk _ _ h2 ad H locs ls hI hL ⟨trivial, hs.2.2⟩)) h1) h
theorem c_min (F : pl_Fx X Y own cc) {a b : pl_E Int32} (ha : pl_C X Y Value.int n pc a p1) (hb : pl_C X Y Value.int (n + 1) p1 b p2) (hd : decode cc p2 = .ok (.invokestatic idx, 3)) (hl : Cond.methodLink own idx Lib.Math.min.name ∈ pl_T) (hm : Cond.static Lib.Math.min.name ∈ pl_T ∧ Cond.initialized "java/lang/Math" ∈ pl_T ∧ Cond.code Lib.Math.min.name Lib.Math.min.code 2 (some .int) ∈ pl_T) (hR : 1 ≤ (pl_xR X).frames ∧ 21 ≤ (pl_xR X).locals) (hn : n ≤ 8) : pl_C X Y Value.int n pc (e_bin pl_min a b) (p2 + 3) :=
  fun L st σ K hw hk h => ha L st σ _ hw (fun x σ1 h1 => hb L (.int x :: st) σ1 _ (pl_wd1 hw) (fun y σ2 h2 => fun ad H locs ls hI hL hs =>
    va_mmin F.1 F.2.1 hI.2.2.2.2.2.1.1.symm F.2.2.1 (F.2.2.2.1 _ hl) (F.2.2.2.1 _ hm.1) (F.2.2.2.1 _ hm.2.1) (F.2.2.2.1 _ hm.2.2) hR.1 (by rw [pl_re_wd]; omega) (pl_room F hI).1 (pl_room F hI).2 hd (hk _ _ h2 ad H locs ls hI hL ⟨trivial, hs.2.2⟩)) h1) h
end Invoke
end
