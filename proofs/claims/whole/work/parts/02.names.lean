-- ===== PART A: goes FIRST, ahead of the names: the tables' words, and 'selects' of the private methods out of them =====
/-- a private method of a class that the tables say can be made, by its rows of tables_1 -/
def lw_okq (q : MethodName × Nat) : Prop := (q.1.cls ≠ "java/lang/invoke/MethodHandle" ∧ q.1.cls ≠ "java/lang/invoke/VarHandle") ∧ Cond.instantiable q.1.cls q.2 ∈ tables_1 ∧ Cond.privateMethod q.1 ∈ tables_1 ∧ Cond.instanceMethod q.1 ∈ tables_1
theorem lw_p0 : lw_okq (⟨"LinkAudit", "forgetLinks", "()V"⟩, 10) := ⟨⟨by decide +kernel, by decide +kernel⟩, List.mem_of_getElem? (i := 16) (by decide +kernel), List.mem_of_getElem? (i := 344) (by decide +kernel), List.mem_of_getElem? (i := 345) (by decide +kernel)⟩
theorem lw_p1 : lw_okq (⟨"LinkAudit", "isClass", "(I)Z"⟩, 10) := ⟨⟨by decide +kernel, by decide +kernel⟩, List.mem_of_getElem? (i := 16) (by decide +kernel), List.mem_of_getElem? (i := 372) (by decide +kernel), List.mem_of_getElem? (i := 373) (by decide +kernel)⟩
theorem lw_p2 : lw_okq (⟨"LinkAudit", "addMember", "(III)I"⟩, 10) := ⟨⟨by decide +kernel, by decide +kernel⟩, List.mem_of_getElem? (i := 16) (by decide +kernel), List.mem_of_getElem? (i := 379) (by decide +kernel), List.mem_of_getElem? (i := 380) (by decide +kernel)⟩
theorem lw_p3 : lw_okq (⟨"LinkAudit", "link", "()V"⟩, 10) := ⟨⟨by decide +kernel, by decide +kernel⟩, List.mem_of_getElem? (i := 16) (by decide +kernel), List.mem_of_getElem? (i := 439) (by decide +kernel), List.mem_of_getElem? (i := 440) (by decide +kernel)⟩
theorem lw_p4 : lw_okq (⟨"LinkAudit$Links", "loadCode", "(II)I"⟩, 9) := ⟨⟨by decide +kernel, by decide +kernel⟩, List.mem_of_getElem? (i := 158) (by decide +kernel), List.mem_of_getElem? (i := 450) (by decide +kernel), List.mem_of_getElem? (i := 451) (by decide +kernel)⟩
theorem lw_p5 : lw_okq (⟨"LinkAudit$Links", "superCode", "(IIZI)I"⟩, 9) := ⟨⟨by decide +kernel, by decide +kernel⟩, List.mem_of_getElem? (i := 158) (by decide +kernel), List.mem_of_getElem? (i := 459) (by decide +kernel), List.mem_of_getElem? (i := 460) (by decide +kernel)⟩
theorem lw_p6 : lw_okq (⟨"LinkAudit$Links", "noteSupers", "(I)V"⟩, 9) := ⟨⟨by decide +kernel, by decide +kernel⟩, List.mem_of_getElem? (i := 158) (by decide +kernel), List.mem_of_getElem? (i := 477) (by decide +kernel), List.mem_of_getElem? (i := 478) (by decide +kernel)⟩
theorem lw_p7 : lw_okq (⟨"LinkAudit$Links", "noteSuper", "(II)V"⟩, 9) := ⟨⟨by decide +kernel, by decide +kernel⟩, List.mem_of_getElem? (i := 158) (by decide +kernel), List.mem_of_getElem? (i := 481) (by decide +kernel), List.mem_of_getElem? (i := 482) (by decide +kernel)⟩
theorem lw_p8 : lw_okq (⟨"LinkAudit$Selector", "coveredFrom", "(II)J"⟩, 5) := ⟨⟨by decide +kernel, by decide +kernel⟩, List.mem_of_getElem? (i := 247) (by decide +kernel), List.mem_of_getElem? (i := 493) (by decide +kernel), List.mem_of_getElem? (i := 494) (by decide +kernel)⟩
theorem lw_p9 : lw_okq (⟨"LinkAudit$Selector", "likeOnes", "(I)J"⟩, 5) := ⟨⟨by decide +kernel, by decide +kernel⟩, List.mem_of_getElem? (i := 247) (by decide +kernel), List.mem_of_getElem? (i := 497) (by decide +kernel), List.mem_of_getElem? (i := 498) (by decide +kernel)⟩
theorem lw_p10 : lw_okq (⟨"LinkAudit$Selector", "coversAtOnce", "(II)Z"⟩, 5) := ⟨⟨by decide +kernel, by decide +kernel⟩, List.mem_of_getElem? (i := 247) (by decide +kernel), List.mem_of_getElem? (i := 511) (by decide +kernel), List.mem_of_getElem? (i := 512) (by decide +kernel)⟩
theorem lw_p11 : lw_okq (⟨"LinkAudit$Resolver", "isKindOfClass", "(II)Z"⟩, 6) := ⟨⟨by decide +kernel, by decide +kernel⟩, List.mem_of_getElem? (i := 222) (by decide +kernel), List.mem_of_getElem? (i := 534) (by decide +kernel), List.mem_of_getElem? (i := 535) (by decide +kernel)⟩
theorem lw_p12 : lw_okq (⟨"LinkAudit$Resolver", "memberVerdict", "(III)I"⟩, 6) := ⟨⟨by decide +kernel, by decide +kernel⟩, List.mem_of_getElem? (i := 222) (by decide +kernel), List.mem_of_getElem? (i := 539) (by decide +kernel), List.mem_of_getElem? (i := 540) (by decide +kernel)⟩
theorem lw_p13 : lw_okq (⟨"LinkAudit$Resolver", "searchField", "(IJ)I"⟩, 6) := ⟨⟨by decide +kernel, by decide +kernel⟩, List.mem_of_getElem? (i := 222) (by decide +kernel), List.mem_of_getElem? (i := 548) (by decide +kernel), List.mem_of_getElem? (i := 549) (by decide +kernel)⟩
theorem lw_p14 : lw_okq (⟨"LinkAudit$Resolver", "foundMethod", "(IJ)I"⟩, 6) := ⟨⟨by decide +kernel, by decide +kernel⟩, List.mem_of_getElem? (i := 222) (by decide +kernel), List.mem_of_getElem? (i := 555) (by decide +kernel), List.mem_of_getElem? (i := 556) (by decide +kernel)⟩
theorem lw_p15 : lw_okq (⟨"LinkAudit$Resolver", "mayReach", "(II)Z"⟩, 6) := ⟨⟨by decide +kernel, by decide +kernel⟩, List.mem_of_getElem? (i := 222) (by decide +kernel), List.mem_of_getElem? (i := 570) (by decide +kernel), List.mem_of_getElem? (i := 571) (by decide +kernel)⟩
def lw_privs_1 : List (MethodName × Nat) := [(⟨"LinkAudit", "forgetLinks", "()V"⟩, 10), (⟨"LinkAudit", "isClass", "(I)Z"⟩, 10), (⟨"LinkAudit", "addMember", "(III)I"⟩, 10), (⟨"LinkAudit", "link", "()V"⟩, 10), (⟨"LinkAudit$Links", "loadCode", "(II)I"⟩, 9), (⟨"LinkAudit$Links", "superCode", "(IIZI)I"⟩, 9), (⟨"LinkAudit$Links", "noteSupers", "(I)V"⟩, 9), (⟨"LinkAudit$Links", "noteSuper", "(II)V"⟩, 9), (⟨"LinkAudit$Selector", "coveredFrom", "(II)J"⟩, 5), (⟨"LinkAudit$Selector", "likeOnes", "(I)J"⟩, 5), (⟨"LinkAudit$Selector", "coversAtOnce", "(II)Z"⟩, 5), (⟨"LinkAudit$Resolver", "isKindOfClass", "(II)Z"⟩, 6), (⟨"LinkAudit$Resolver", "memberVerdict", "(III)I"⟩, 6), (⟨"LinkAudit$Resolver", "searchField", "(IJ)I"⟩, 6), (⟨"LinkAudit$Resolver", "foundMethod", "(IJ)I"⟩, 6), (⟨"LinkAudit$Resolver", "mayReach", "(II)Z"⟩, 6)]
theorem lw_r1 : ∀ q ∈ lw_privs_1, lw_okq q := List.forall_mem_cons.mpr ⟨lw_p0, List.forall_mem_cons.mpr ⟨lw_p1, List.forall_mem_cons.mpr ⟨lw_p2, List.forall_mem_cons.mpr ⟨lw_p3, List.forall_mem_cons.mpr ⟨lw_p4, List.forall_mem_cons.mpr ⟨lw_p5, List.forall_mem_cons.mpr ⟨lw_p6, List.forall_mem_cons.mpr ⟨lw_p7, List.forall_mem_cons.mpr ⟨lw_p8, List.forall_mem_cons.mpr ⟨lw_p9, List.forall_mem_cons.mpr ⟨lw_p10, List.forall_mem_cons.mpr ⟨lw_p11, List.forall_mem_cons.mpr ⟨lw_p12, List.forall_mem_cons.mpr ⟨lw_p13, List.forall_mem_cons.mpr ⟨lw_p14, List.forall_mem_cons.mpr ⟨lw_p15, fun _ h => absurd h List.not_mem_nil⟩⟩⟩⟩⟩⟩⟩⟩⟩⟩⟩⟩⟩⟩⟩⟩
theorem lw_p16 : lw_okq (⟨"LinkAudit", "isMethod", "(I)Z"⟩, 10) := ⟨⟨by decide +kernel, by decide +kernel⟩, List.mem_of_getElem? (i := 16) (by decide +kernel), List.mem_of_getElem? (i := 589) (by decide +kernel), List.mem_of_getElem? (i := 590) (by decide +kernel)⟩
theorem lw_p17 : lw_okq (⟨"LinkAudit$Selector", "candidate", "(II)I"⟩, 5) := ⟨⟨by decide +kernel, by decide +kernel⟩, List.mem_of_getElem? (i := 247) (by decide +kernel), List.mem_of_getElem? (i := 609) (by decide +kernel), List.mem_of_getElem? (i := 610) (by decide +kernel)⟩
theorem lw_p18 : lw_okq (⟨"LinkAudit$Selector", "isCovering", "(II)Z"⟩, 5) := ⟨⟨by decide +kernel, by decide +kernel⟩, List.mem_of_getElem? (i := 247) (by decide +kernel), List.mem_of_getElem? (i := 613) (by decide +kernel), List.mem_of_getElem? (i := 614) (by decide +kernel)⟩
theorem lw_p19 : lw_okq (⟨"LinkAudit$Selector", "needsCode", "(II)Z"⟩, 5) := ⟨⟨by decide +kernel, by decide +kernel⟩, List.mem_of_getElem? (i := 247) (by decide +kernel), List.mem_of_getElem? (i := 636) (by decide +kernel), List.mem_of_getElem? (i := 637) (by decide +kernel)⟩
theorem lw_p20 : lw_okq (⟨"LinkAudit", "agree", "()V"⟩, 10) := ⟨⟨by decide +kernel, by decide +kernel⟩, List.mem_of_getElem? (i := 16) (by decide +kernel), List.mem_of_getElem? (i := 646) (by decide +kernel), List.mem_of_getElem? (i := 647) (by decide +kernel)⟩
theorem lw_p21 : lw_okq (⟨"LinkAudit", "agreeOnTypes", "(II)V"⟩, 10) := ⟨⟨by decide +kernel, by decide +kernel⟩, List.mem_of_getElem? (i := 16) (by decide +kernel), List.mem_of_getElem? (i := 654) (by decide +kernel), List.mem_of_getElem? (i := 655) (by decide +kernel)⟩
theorem lw_p22 : lw_okq (⟨"LinkAudit$Agreements", "areInConflict", "(III)Z"⟩, 6) := ⟨⟨by decide +kernel, by decide +kernel⟩, List.mem_of_getElem? (i := 269) (by decide +kernel), List.mem_of_getElem? (i := 674) (by decide +kernel), List.mem_of_getElem? (i := 675) (by decide +kernel)⟩
theorem lw_p23 : lw_okq (⟨"LinkAuditModel", "own", "(II)I"⟩, 31) := ⟨⟨by decide +kernel, by decide +kernel⟩, List.mem_of_getElem? (i := 696) (by decide +kernel), List.mem_of_getElem? (i := 812) (by decide +kernel), List.mem_of_getElem? (i := 813) (by decide +kernel)⟩
theorem lw_p24 : lw_okq (⟨"LinkAuditModel", "add", "(IZIIII)I"⟩, 31) := ⟨⟨by decide +kernel, by decide +kernel⟩, List.mem_of_getElem? (i := 696) (by decide +kernel), List.mem_of_getElem? (i := 820) (by decide +kernel), List.mem_of_getElem? (i := 821) (by decide +kernel)⟩
theorem lw_p25 : lw_okq (⟨"LinkAuditModel", "isInterface", "(I)Z"⟩, 31) := ⟨⟨by decide +kernel, by decide +kernel⟩, List.mem_of_getElem? (i := 696) (by decide +kernel), List.mem_of_getElem? (i := 828) (by decide +kernel), List.mem_of_getElem? (i := 829) (by decide +kernel)⟩
theorem lw_p26 : lw_okq (⟨"LinkAuditModel", "found", "(II)I"⟩, 31) := ⟨⟨by decide +kernel, by decide +kernel⟩, List.mem_of_getElem? (i := 696) (by decide +kernel), List.mem_of_getElem? (i := 840) (by decide +kernel), List.mem_of_getElem? (i := 841) (by decide +kernel)⟩
theorem lw_p27 : lw_okq (⟨"LinkAuditModel", "loadCode", "(I)I"⟩, 31) := ⟨⟨by decide +kernel, by decide +kernel⟩, List.mem_of_getElem? (i := 696) (by decide +kernel), List.mem_of_getElem? (i := 848) (by decide +kernel), List.mem_of_getElem? (i := 849) (by decide +kernel)⟩
theorem lw_p28 : lw_okq (⟨"LinkAuditModel", "fits", "(III)I"⟩, 31) := ⟨⟨by decide +kernel, by decide +kernel⟩, List.mem_of_getElem? (i := 696) (by decide +kernel), List.mem_of_getElem? (i := 852) (by decide +kernel), List.mem_of_getElem? (i := 853) (by decide +kernel)⟩
theorem lw_p29 : lw_okq (⟨"LinkAuditModel", "mayUse", "(II)Z"⟩, 31) := ⟨⟨by decide +kernel, by decide +kernel⟩, List.mem_of_getElem? (i := 696) (by decide +kernel), List.mem_of_getElem? (i := 856) (by decide +kernel), List.mem_of_getElem? (i := 857) (by decide +kernel)⟩
theorem lw_p30 : lw_okq (⟨"LinkAuditModel", "neighbours", "(II)Z"⟩, 31) := ⟨⟨by decide +kernel, by decide +kernel⟩, List.mem_of_getElem? (i := 696) (by decide +kernel), List.mem_of_getElem? (i := 860) (by decide +kernel), List.mem_of_getElem? (i := 861) (by decide +kernel)⟩
theorem lw_p31 : lw_okq (⟨"LinkAuditModel", "wanted", "(II)I"⟩, 31) := ⟨⟨by decide +kernel, by decide +kernel⟩, List.mem_of_getElem? (i := 696) (by decide +kernel), List.mem_of_getElem? (i := 864) (by decide +kernel), List.mem_of_getElem? (i := 865) (by decide +kernel)⟩
def lw_privs_2 : List (MethodName × Nat) := [(⟨"LinkAudit", "isMethod", "(I)Z"⟩, 10), (⟨"LinkAudit$Selector", "candidate", "(II)I"⟩, 5), (⟨"LinkAudit$Selector", "isCovering", "(II)Z"⟩, 5), (⟨"LinkAudit$Selector", "needsCode", "(II)Z"⟩, 5), (⟨"LinkAudit", "agree", "()V"⟩, 10), (⟨"LinkAudit", "agreeOnTypes", "(II)V"⟩, 10), (⟨"LinkAudit$Agreements", "areInConflict", "(III)Z"⟩, 6), (⟨"LinkAuditModel", "own", "(II)I"⟩, 31), (⟨"LinkAuditModel", "add", "(IZIIII)I"⟩, 31), (⟨"LinkAuditModel", "isInterface", "(I)Z"⟩, 31), (⟨"LinkAuditModel", "found", "(II)I"⟩, 31), (⟨"LinkAuditModel", "loadCode", "(I)I"⟩, 31), (⟨"LinkAuditModel", "fits", "(III)I"⟩, 31), (⟨"LinkAuditModel", "mayUse", "(II)Z"⟩, 31), (⟨"LinkAuditModel", "neighbours", "(II)Z"⟩, 31), (⟨"LinkAuditModel", "wanted", "(II)I"⟩, 31)]
theorem lw_r2 : ∀ q ∈ lw_privs_2, lw_okq q := List.forall_mem_cons.mpr ⟨lw_p16, List.forall_mem_cons.mpr ⟨lw_p17, List.forall_mem_cons.mpr ⟨lw_p18, List.forall_mem_cons.mpr ⟨lw_p19, List.forall_mem_cons.mpr ⟨lw_p20, List.forall_mem_cons.mpr ⟨lw_p21, List.forall_mem_cons.mpr ⟨lw_p22, List.forall_mem_cons.mpr ⟨lw_p23, List.forall_mem_cons.mpr ⟨lw_p24, List.forall_mem_cons.mpr ⟨lw_p25, List.forall_mem_cons.mpr ⟨lw_p26, List.forall_mem_cons.mpr ⟨lw_p27, List.forall_mem_cons.mpr ⟨lw_p28, List.forall_mem_cons.mpr ⟨lw_p29, List.forall_mem_cons.mpr ⟨lw_p30, List.forall_mem_cons.mpr ⟨lw_p31, fun _ h => absurd h List.not_mem_nil⟩⟩⟩⟩⟩⟩⟩⟩⟩⟩⟩⟩⟩⟩⟩⟩
theorem lw_p32 : lw_okq (⟨"LinkAuditModel", "prepare", "()V"⟩, 31) := ⟨⟨by decide +kernel, by decide +kernel⟩, List.mem_of_getElem? (i := 696) (by decide +kernel), List.mem_of_getElem? (i := 872) (by decide +kernel), List.mem_of_getElem? (i := 873) (by decide +kernel)⟩
theorem lw_p33 : lw_okq (⟨"LinkAuditModel", "verdictOf", "(I)I"⟩, 31) := ⟨⟨by decide +kernel, by decide +kernel⟩, List.mem_of_getElem? (i := 696) (by decide +kernel), List.mem_of_getElem? (i := 876) (by decide +kernel), List.mem_of_getElem? (i := 877) (by decide +kernel)⟩
theorem lw_p34 : lw_okq (⟨"LinkAuditModel", "findField", "(III)I"⟩, 31) := ⟨⟨by decide +kernel, by decide +kernel⟩, List.mem_of_getElem? (i := 696) (by decide +kernel), List.mem_of_getElem? (i := 880) (by decide +kernel), List.mem_of_getElem? (i := 881) (by decide +kernel)⟩
theorem lw_p35 : lw_okq (⟨"LinkAuditModel", "ownMember", "(IZIII)I"⟩, 31) := ⟨⟨by decide +kernel, by decide +kernel⟩, List.mem_of_getElem? (i := 696) (by decide +kernel), List.mem_of_getElem? (i := 884) (by decide +kernel), List.mem_of_getElem? (i := 885) (by decide +kernel)⟩
theorem lw_p36 : lw_okq (⟨"LinkAuditModel", "findMethod", "(IIII)I"⟩, 31) := ⟨⟨by decide +kernel, by decide +kernel⟩, List.mem_of_getElem? (i := 696) (by decide +kernel), List.mem_of_getElem? (i := 888) (by decide +kernel), List.mem_of_getElem? (i := 889) (by decide +kernel)⟩
theorem lw_p37 : lw_okq (⟨"LinkAuditModel", "specificBody", "(IIII)I"⟩, 31) := ⟨⟨by decide +kernel, by decide +kernel⟩, List.mem_of_getElem? (i := 696) (by decide +kernel), List.mem_of_getElem? (i := 892) (by decide +kernel), List.mem_of_getElem? (i := 893) (by decide +kernel)⟩
theorem lw_p38 : lw_okq (⟨"LinkAuditModel", "counts", "(IIIII)Z"⟩, 31) := ⟨⟨by decide +kernel, by decide +kernel⟩, List.mem_of_getElem? (i := 696) (by decide +kernel), List.mem_of_getElem? (i := 896) (by decide +kernel), List.mem_of_getElem? (i := 897) (by decide +kernel)⟩
theorem lw_p39 : lw_okq (⟨"LinkAuditModel", "hasFace", "(II)Z"⟩, 31) := ⟨⟨by decide +kernel, by decide +kernel⟩, List.mem_of_getElem? (i := 696) (by decide +kernel), List.mem_of_getElem? (i := 900) (by decide +kernel), List.mem_of_getElem? (i := 901) (by decide +kernel)⟩
theorem lw_p40 : lw_okq (⟨"LinkAuditModel", "mostSpecific", "(IIIII)Z"⟩, 31) := ⟨⟨by decide +kernel, by decide +kernel⟩, List.mem_of_getElem? (i := 696) (by decide +kernel), List.mem_of_getElem? (i := 904) (by decide +kernel), List.mem_of_getElem? (i := 905) (by decide +kernel)⟩
theorem lw_p41 : lw_okq (⟨"LinkAuditModel", "reaches", "(II)Z"⟩, 31) := ⟨⟨by decide +kernel, by decide +kernel⟩, List.mem_of_getElem? (i := 696) (by decide +kernel), List.mem_of_getElem? (i := 908) (by decide +kernel), List.mem_of_getElem? (i := 909) (by decide +kernel)⟩
theorem lw_p42 : lw_okq (⟨"LinkAuditModel", "isSub", "(II)Z"⟩, 31) := ⟨⟨by decide +kernel, by decide +kernel⟩, List.mem_of_getElem? (i := 696) (by decide +kernel), List.mem_of_getElem? (i := 912) (by decide +kernel), List.mem_of_getElem? (i := 913) (by decide +kernel)⟩
theorem lw_p43 : lw_okq (⟨"LinkAuditModel", "select2", "(II)I"⟩, 31) := ⟨⟨by decide +kernel, by decide +kernel⟩, List.mem_of_getElem? (i := 696) (by decide +kernel), List.mem_of_getElem? (i := 920) (by decide +kernel), List.mem_of_getElem? (i := 921) (by decide +kernel)⟩
theorem lw_p44 : lw_okq (⟨"LinkAuditModel", "selected", "(II)I"⟩, 31) := ⟨⟨by decide +kernel, by decide +kernel⟩, List.mem_of_getElem? (i := 696) (by decide +kernel), List.mem_of_getElem? (i := 924) (by decide +kernel), List.mem_of_getElem? (i := 925) (by decide +kernel)⟩
theorem lw_p45 : lw_okq (⟨"LinkAuditModel", "covers", "(II)Z"⟩, 31) := ⟨⟨by decide +kernel, by decide +kernel⟩, List.mem_of_getElem? (i := 696) (by decide +kernel), List.mem_of_getElem? (i := 928) (by decide +kernel), List.mem_of_getElem? (i := 929) (by decide +kernel)⟩
theorem lw_p46 : lw_okq (⟨"LinkAuditModel", "coversAtOnce", "(II)Z"⟩, 31) := ⟨⟨by decide +kernel, by decide +kernel⟩, List.mem_of_getElem? (i := 696) (by decide +kernel), List.mem_of_getElem? (i := 932) (by decide +kernel), List.mem_of_getElem? (i := 933) (by decide +kernel)⟩
theorem lw_p47 : lw_okq (⟨"LinkAuditModel", "like", "(II)Z"⟩, 31) := ⟨⟨by decide +kernel, by decide +kernel⟩, List.mem_of_getElem? (i := 696) (by decide +kernel), List.mem_of_getElem? (i := 936) (by decide +kernel), List.mem_of_getElem? (i := 937) (by decide +kernel)⟩
def lw_privs_3 : List (MethodName × Nat) := [(⟨"LinkAuditModel", "prepare", "()V"⟩, 31), (⟨"LinkAuditModel", "verdictOf", "(I)I"⟩, 31), (⟨"LinkAuditModel", "findField", "(III)I"⟩, 31), (⟨"LinkAuditModel", "ownMember", "(IZIII)I"⟩, 31), (⟨"LinkAuditModel", "findMethod", "(IIII)I"⟩, 31), (⟨"LinkAuditModel", "specificBody", "(IIII)I"⟩, 31), (⟨"LinkAuditModel", "counts", "(IIIII)Z"⟩, 31), (⟨"LinkAuditModel", "hasFace", "(II)Z"⟩, 31), (⟨"LinkAuditModel", "mostSpecific", "(IIIII)Z"⟩, 31), (⟨"LinkAuditModel", "reaches", "(II)Z"⟩, 31), (⟨"LinkAuditModel", "isSub", "(II)Z"⟩, 31), (⟨"LinkAuditModel", "select2", "(II)I"⟩, 31), (⟨"LinkAuditModel", "selected", "(II)I"⟩, 31), (⟨"LinkAuditModel", "covers", "(II)Z"⟩, 31), (⟨"LinkAuditModel", "coversAtOnce", "(II)Z"⟩, 31), (⟨"LinkAuditModel", "like", "(II)Z"⟩, 31)]
theorem lw_r3 : ∀ q ∈ lw_privs_3, lw_okq q := List.forall_mem_cons.mpr ⟨lw_p32, List.forall_mem_cons.mpr ⟨lw_p33, List.forall_mem_cons.mpr ⟨lw_p34, List.forall_mem_cons.mpr ⟨lw_p35, List.forall_mem_cons.mpr ⟨lw_p36, List.forall_mem_cons.mpr ⟨lw_p37, List.forall_mem_cons.mpr ⟨lw_p38, List.forall_mem_cons.mpr ⟨lw_p39, List.forall_mem_cons.mpr ⟨lw_p40, List.forall_mem_cons.mpr ⟨lw_p41, List.forall_mem_cons.mpr ⟨lw_p42, List.forall_mem_cons.mpr ⟨lw_p43, List.forall_mem_cons.mpr ⟨lw_p44, List.forall_mem_cons.mpr ⟨lw_p45, List.forall_mem_cons.mpr ⟨lw_p46, List.forall_mem_cons.mpr ⟨lw_p47, fun _ h => absurd h List.not_mem_nil⟩⟩⟩⟩⟩⟩⟩⟩⟩⟩⟩⟩⟩⟩⟩⟩
theorem lw_p48 : lw_okq (⟨"LinkAuditModel", "hidden", "(I)Z"⟩, 31) := ⟨⟨by decide +kernel, by decide +kernel⟩, List.mem_of_getElem? (i := 696) (by decide +kernel), List.mem_of_getElem? (i := 940) (by decide +kernel), List.mem_of_getElem? (i := 941) (by decide +kernel)⟩
theorem lw_p49 : lw_okq (⟨"LinkAuditModel", "joinWay", "(II)V"⟩, 31) := ⟨⟨by decide +kernel, by decide +kernel⟩, List.mem_of_getElem? (i := 696) (by decide +kernel), List.mem_of_getElem? (i := 944) (by decide +kernel), List.mem_of_getElem? (i := 945) (by decide +kernel)⟩
theorem lw_p50 : lw_okq (⟨"LinkAuditModel", "overridesIt", "(II)Z"⟩, 31) := ⟨⟨by decide +kernel, by decide +kernel⟩, List.mem_of_getElem? (i := 696) (by decide +kernel), List.mem_of_getElem? (i := 952) (by decide +kernel), List.mem_of_getElem? (i := 953) (by decide +kernel)⟩
theorem lw_p51 : lw_okq (⟨"LinkAuditModel", "allGaps", "()I"⟩, 31) := ⟨⟨by decide +kernel, by decide +kernel⟩, List.mem_of_getElem? (i := 696) (by decide +kernel), List.mem_of_getElem? (i := 960) (by decide +kernel), List.mem_of_getElem? (i := 961) (by decide +kernel)⟩
theorem lw_p52 : lw_okq (⟨"LinkAuditModel", "allConflicts", "()V"⟩, 31) := ⟨⟨by decide +kernel, by decide +kernel⟩, List.mem_of_getElem? (i := 696) (by decide +kernel), List.mem_of_getElem? (i := 968) (by decide +kernel), List.mem_of_getElem? (i := 969) (by decide +kernel)⟩
theorem lw_p53 : lw_okq (⟨"LinkAuditModel", "constrain", "()V"⟩, 31) := ⟨⟨by decide +kernel, by decide +kernel⟩, List.mem_of_getElem? (i := 696) (by decide +kernel), List.mem_of_getElem? (i := 972) (by decide +kernel), List.mem_of_getElem? (i := 973) (by decide +kernel)⟩
theorem lw_p54 : lw_okq (⟨"LinkAuditModel", "mustBoth", "(III)V"⟩, 31) := ⟨⟨by decide +kernel, by decide +kernel⟩, List.mem_of_getElem? (i := 696) (by decide +kernel), List.mem_of_getElem? (i := 976) (by decide +kernel), List.mem_of_getElem? (i := 977) (by decide +kernel)⟩
theorem lw_p55 : lw_okq (⟨"LinkAuditModel", "must", "(III)V"⟩, 31) := ⟨⟨by decide +kernel, by decide +kernel⟩, List.mem_of_getElem? (i := 696) (by decide +kernel), List.mem_of_getElem? (i := 980) (by decide +kernel), List.mem_of_getElem? (i := 981) (by decide +kernel)⟩
def lw_privs_4 : List (MethodName × Nat) := [(⟨"LinkAuditModel", "hidden", "(I)Z"⟩, 31), (⟨"LinkAuditModel", "joinWay", "(II)V"⟩, 31), (⟨"LinkAuditModel", "overridesIt", "(II)Z"⟩, 31), (⟨"LinkAuditModel", "allGaps", "()I"⟩, 31), (⟨"LinkAuditModel", "allConflicts", "()V"⟩, 31), (⟨"LinkAuditModel", "constrain", "()V"⟩, 31), (⟨"LinkAuditModel", "mustBoth", "(III)V"⟩, 31), (⟨"LinkAuditModel", "must", "(III)V"⟩, 31)]
theorem lw_r4 : ∀ q ∈ lw_privs_4, lw_okq q := List.forall_mem_cons.mpr ⟨lw_p48, List.forall_mem_cons.mpr ⟨lw_p49, List.forall_mem_cons.mpr ⟨lw_p50, List.forall_mem_cons.mpr ⟨lw_p51, List.forall_mem_cons.mpr ⟨lw_p52, List.forall_mem_cons.mpr ⟨lw_p53, List.forall_mem_cons.mpr ⟨lw_p54, List.forall_mem_cons.mpr ⟨lw_p55, fun _ h => absurd h List.not_mem_nil⟩⟩⟩⟩⟩⟩⟩⟩
def lw_privs : List (MethodName × Nat) := lw_privs_1 ++ (lw_privs_2 ++ (lw_privs_3 ++ (lw_privs_4)))
def lw_tbl : List Cond := k2_sels lw_privs ++ tables_1
theorem lw_privs_ok : ∀ q ∈ lw_privs, lw_okq q := by
  show ∀ q ∈ lw_privs_1 ++ (lw_privs_2 ++ (lw_privs_3 ++ (lw_privs_4))), lw_okq q
  exact List.forall_mem_append.mpr ⟨lw_r1, List.forall_mem_append.mpr ⟨lw_r2, List.forall_mem_append.mpr ⟨lw_r3, lw_r4⟩⟩⟩
/-! the words that any method may use: those of lw_tbl that last over calls -/
def ALLW : List Cond := lw_tbl.filter goodWord
theorem good_all {L : List Cond} (h : ∀ w ∈ L, w ∈ ALLW) : GoodIn ALLW L := fun w hw => ⟨h w hw, good_of_word (List.mem_filter.mp (h w hw)).2⟩
theorem ALLW_tbl {w : Cond} (h : w ∈ ALLW) : w ∈ lw_tbl := (List.mem_filter.mp h).1
abbrev rmR (f lo : Nat) : Room := { frames := f, cells := 0, slots := 0, locals := lo }
def y_LinkAudit_init : MethodName := ⟨"LinkAudit", "<init>", "()V"⟩
def y_LinkAudit_provide : MethodName := ⟨"LinkAudit", "provide", "(II)I"⟩
def y_LinkAudit_isPlugin : MethodName := ⟨"LinkAudit", "isPlugin", "(I)Z"⟩
def y_LinkAudit_isBelow : MethodName := ⟨"LinkAudit", "isBelow", "(II)Z"⟩
def y_LinkAudit_forgetLinks : MethodName := ⟨"LinkAudit", "forgetLinks", "()V"⟩
def y_LinkAudit_mask : MethodName := ⟨"LinkAudit", "mask", "(IIZ)I"⟩
def y_LinkAudit_define : MethodName := ⟨"LinkAudit", "define", "(IIIII)I"⟩
def y_LinkAudit_field : MethodName := ⟨"LinkAudit", "field", "(IIII)I"⟩
def y_LinkAudit_isClass : MethodName := ⟨"LinkAudit", "isClass", "(I)Z"⟩
def y_LinkAudit_addMember : MethodName := ⟨"LinkAudit", "addMember", "(III)I"⟩
def y_LinkAudit_method : MethodName := ⟨"LinkAudit", "method", "(IIIII)I"⟩
def y_LinkAudit_reference : MethodName := ⟨"LinkAudit", "reference", "(IIIII)I"⟩
def y_LinkAudit_find : MethodName := ⟨"LinkAudit", "find", "(II)I"⟩
def y_LinkAudit_hasBit : MethodName := ⟨"LinkAudit", "hasBit", "(JI)Z"⟩
def y_LinkAudit_load : MethodName := ⟨"LinkAudit", "load", "(I)I"⟩
def y_LinkAudit_link : MethodName := ⟨"LinkAudit", "link", "()V"⟩
def y_LinkAudit_lowestBit : MethodName := ⟨"LinkAudit", "lowestBit", "(J)I"⟩
def y_LinkAudit_verdict : MethodName := ⟨"LinkAudit", "verdict", "(I)I"⟩
def y_LinkAudit_select : MethodName := ⟨"LinkAudit", "select", "(II)I"⟩
def y_LinkAudit_isMethod : MethodName := ⟨"LinkAudit", "isMethod", "(I)Z"⟩
def y_LinkAudit_overrides : MethodName := ⟨"LinkAudit", "overrides", "(II)Z"⟩
def y_LinkAudit_gaps : MethodName := ⟨"LinkAudit", "gaps", "()I"⟩
def y_LinkAudit_conflicts : MethodName := ⟨"LinkAudit", "conflicts", "()I"⟩
def y_LinkAudit_agree : MethodName := ⟨"LinkAudit", "agree", "()V"⟩
def y_LinkAudit_agreeOnTypes : MethodName := ⟨"LinkAudit", "agreeOnTypes", "(II)V"⟩
def y_LinkAudit_conflict : MethodName := ⟨"LinkAudit", "conflict", "(II)I"⟩
def y_LinkAudit_faults : MethodName := ⟨"LinkAudit", "faults", "()I"⟩
def y_LinkAudit_count : MethodName := ⟨"LinkAudit", "count", "(I)I"⟩
def y_Loaders_init : MethodName := ⟨"LinkAudit$Loaders", "<init>", "()V"⟩
def y_Loaders_hasProvider : MethodName := ⟨"LinkAudit$Loaders", "hasProvider", "(II)Z"⟩
def y_Loaders_addProvider : MethodName := ⟨"LinkAudit$Loaders", "addProvider", "(II)I"⟩
def y_Loaders_setMasked : MethodName := ⟨"LinkAudit$Loaders", "setMasked", "(IIZ)V"⟩
def y_Loaders_found : MethodName := ⟨"LinkAudit$Loaders", "found", "(II)I"⟩
def y_Classes_init : MethodName := ⟨"LinkAudit$Classes", "<init>", "()V"⟩
def y_Classes_add : MethodName := ⟨"LinkAudit$Classes", "add", "(IIIII)I"⟩
def y_Classes_isInterface : MethodName := ⟨"LinkAudit$Classes", "isInterface", "(I)Z"⟩
def y_Classes_canBeSuper : MethodName := ⟨"LinkAudit$Classes", "canBeSuper", "(I)Z"⟩
def y_Classes_mayUse : MethodName := ⟨"LinkAudit$Classes", "mayUse", "(II)Z"⟩
def y_Classes_areNeighbours : MethodName := ⟨"LinkAudit$Classes", "areNeighbours", "(II)Z"⟩
def y_Classes_isAbstract : MethodName := ⟨"LinkAudit$Classes", "isAbstract", "(I)Z"⟩
def y_Members_init : MethodName := ⟨"LinkAudit$Members", "<init>", "()V"⟩
def y_Members_fieldSignature : MethodName := ⟨"LinkAudit$Members", "fieldSignature", "(II)I"⟩
def y_Members_withSignature : MethodName := ⟨"LinkAudit$Members", "withSignature", "(I)J"⟩
def y_Members_add : MethodName := ⟨"LinkAudit$Members", "add", "(III)I"⟩
def y_Members_isMethod : MethodName := ⟨"LinkAudit$Members", "isMethod", "(I)Z"⟩
def y_Members_isStatic : MethodName := ⟨"LinkAudit$Members", "isStatic", "(I)Z"⟩
def y_Members_access : MethodName := ⟨"LinkAudit$Members", "access", "(I)I"⟩
def y_Members_methodSignature : MethodName := ⟨"LinkAudit$Members", "methodSignature", "(III)I"⟩
def y_Members_firstType : MethodName := ⟨"LinkAudit$Members", "firstType", "(I)I"⟩
def y_Members_secondType : MethodName := ⟨"LinkAudit$Members", "secondType", "(I)I"⟩
def y_References_init : MethodName := ⟨"LinkAudit$References", "<init>", "()V"⟩
def y_References_add : MethodName := ⟨"LinkAudit$References", "add", "(IIIII)I"⟩
def y_References_wantsField : MethodName := ⟨"LinkAudit$References", "wantsField", "(I)Z"⟩
def y_References_wantsStatic : MethodName := ⟨"LinkAudit$References", "wantsStatic", "(I)Z"⟩
def y_Links_init : MethodName := ⟨"LinkAudit$Links", "<init>", "(LLinkAudit$Loaders;LLinkAudit$Classes;)V"⟩
def y_Links_renew : MethodName := ⟨"LinkAudit$Links", "renew", "()V"⟩
def y_Links_loadCode : MethodName := ⟨"LinkAudit$Links", "loadCode", "(II)I"⟩
def y_Links_isLoadable : MethodName := ⟨"LinkAudit$Links", "isLoadable", "(I)Z"⟩
def y_Links_superCode : MethodName := ⟨"LinkAudit$Links", "superCode", "(IIZI)I"⟩
def y_Links_noteSupers : MethodName := ⟨"LinkAudit$Links", "noteSupers", "(I)V"⟩
def y_Links_noteSuper : MethodName := ⟨"LinkAudit$Links", "noteSuper", "(II)V"⟩
def y_Links_resolved : MethodName := ⟨"LinkAudit$Links", "resolved", "(II)I"⟩
def y_Links_isSubclass : MethodName := ⟨"LinkAudit$Links", "isSubclass", "(II)Z"⟩
def y_Links_isProperSuper : MethodName := ⟨"LinkAudit$Links", "isProperSuper", "(II)Z"⟩
def y_Inheritance_init : MethodName := ⟨"LinkAudit$Inheritance", "<init>", "(LLinkAudit$Links;LLinkAudit$Members;)V"⟩
def y_Inheritance_offered : MethodName := ⟨"LinkAudit$Inheritance", "offered", "(IJ)J"⟩
def y_Inheritance_mostSpecificWithCode : MethodName := ⟨"LinkAudit$Inheritance", "mostSpecificWithCode", "(J)J"⟩
def y_Resolver_init : MethodName := ⟨"LinkAudit$Resolver", "<init>", "(LLinkAudit$Inheritance;LLinkAudit$References;)V"⟩
def y_Resolver_verdictOf : MethodName := ⟨"LinkAudit$Resolver", "verdictOf", "(I)I"⟩
def y_Resolver_isKindOfClass : MethodName := ⟨"LinkAudit$Resolver", "isKindOfClass", "(II)Z"⟩
def y_Resolver_memberVerdict : MethodName := ⟨"LinkAudit$Resolver", "memberVerdict", "(III)I"⟩
def y_Resolver_searchField : MethodName := ⟨"LinkAudit$Resolver", "searchField", "(IJ)I"⟩
def y_Resolver_foundMethod : MethodName := ⟨"LinkAudit$Resolver", "foundMethod", "(IJ)I"⟩
def y_Resolver_mayReach : MethodName := ⟨"LinkAudit$Resolver", "mayReach", "(II)Z"⟩
def y_Resolver_codeCount : MethodName := ⟨"LinkAudit$Resolver", "codeCount", "()I"⟩
def y_Selector_init : MethodName := ⟨"LinkAudit$Selector", "<init>", "(LLinkAudit$Inheritance;)V"⟩
def y_Selector_renew : MethodName := ⟨"LinkAudit$Selector", "renew", "()V"⟩
def y_Selector_coveredFrom : MethodName := ⟨"LinkAudit$Selector", "coveredFrom", "(II)J"⟩
def y_Selector_likeOnes : MethodName := ⟨"LinkAudit$Selector", "likeOnes", "(I)J"⟩
def y_Selector_coversAtOnce : MethodName := ⟨"LinkAudit$Selector", "coversAtOnce", "(II)Z"⟩
def y_Selector_isSelectable : MethodName := ⟨"LinkAudit$Selector", "isSelectable", "(II)Z"⟩
def y_Selector_selected : MethodName := ⟨"LinkAudit$Selector", "selected", "(II)I"⟩
def y_Selector_candidate : MethodName := ⟨"LinkAudit$Selector", "candidate", "(II)I"⟩
def y_Selector_isCovering : MethodName := ⟨"LinkAudit$Selector", "isCovering", "(II)Z"⟩
def y_Selector_isOverriding : MethodName := ⟨"LinkAudit$Selector", "isOverriding", "(II)Z"⟩
def y_Selector_gapCount : MethodName := ⟨"LinkAudit$Selector", "gapCount", "()I"⟩
def y_Selector_needsCode : MethodName := ⟨"LinkAudit$Selector", "needsCode", "(II)Z"⟩
def y_Agreements_init : MethodName := ⟨"LinkAudit$Agreements", "<init>", "(LLinkAudit$Loaders;)V"⟩
def y_Agreements_clear : MethodName := ⟨"LinkAudit$Agreements", "clear", "()V"⟩
def y_Agreements_join : MethodName := ⟨"LinkAudit$Agreements", "join", "(III)V"⟩
def y_Agreements_listConflicts : MethodName := ⟨"LinkAudit$Agreements", "listConflicts", "()V"⟩
def y_Agreements_areInConflict : MethodName := ⟨"LinkAudit$Agreements", "areInConflict", "(III)Z"⟩
def y_Arrays_fill : MethodName := ⟨"java/util/Arrays", "fill", "([II)V"⟩
def y_Long_bitCount : MethodName := ⟨"java/lang/Long", "bitCount", "(J)I"⟩
def y_LinkAuditModel_init : MethodName := ⟨"LinkAuditModel", "<init>", "()V"⟩
def y_LinkAuditModel_provide : MethodName := ⟨"LinkAuditModel", "provide", "(II)I"⟩
def y_LinkAuditModel_in : MethodName := ⟨"LinkAuditModel", "in", "(III)Z"⟩
def y_LinkAuditModel_mask : MethodName := ⟨"LinkAuditModel", "mask", "(IIZ)I"⟩
def y_LinkAuditModel_define : MethodName := ⟨"LinkAuditModel", "define", "(IIIII)I"⟩
def y_LinkAuditModel_own : MethodName := ⟨"LinkAuditModel", "own", "(II)I"⟩
def y_LinkAuditModel_field : MethodName := ⟨"LinkAuditModel", "field", "(IIII)I"⟩
def y_LinkAuditModel_add : MethodName := ⟨"LinkAuditModel", "add", "(IZIIII)I"⟩
def y_LinkAuditModel_method : MethodName := ⟨"LinkAuditModel", "method", "(IIIII)I"⟩
def y_LinkAuditModel_isInterface : MethodName := ⟨"LinkAuditModel", "isInterface", "(I)Z"⟩
def y_LinkAuditModel_reference : MethodName := ⟨"LinkAuditModel", "reference", "(IIIII)I"⟩
def y_LinkAuditModel_find : MethodName := ⟨"LinkAuditModel", "find", "(II)I"⟩
def y_LinkAuditModel_found : MethodName := ⟨"LinkAuditModel", "found", "(II)I"⟩
def y_LinkAuditModel_load : MethodName := ⟨"LinkAuditModel", "load", "(I)I"⟩
def y_LinkAuditModel_loadCode : MethodName := ⟨"LinkAuditModel", "loadCode", "(I)I"⟩
def y_LinkAuditModel_fits : MethodName := ⟨"LinkAuditModel", "fits", "(III)I"⟩
def y_LinkAuditModel_mayUse : MethodName := ⟨"LinkAuditModel", "mayUse", "(II)Z"⟩
def y_LinkAuditModel_neighbours : MethodName := ⟨"LinkAuditModel", "neighbours", "(II)Z"⟩
def y_LinkAuditModel_wanted : MethodName := ⟨"LinkAuditModel", "wanted", "(II)I"⟩
def y_LinkAuditModel_verdict : MethodName := ⟨"LinkAuditModel", "verdict", "(I)I"⟩
def y_LinkAuditModel_prepare : MethodName := ⟨"LinkAuditModel", "prepare", "()V"⟩
def y_LinkAuditModel_verdictOf : MethodName := ⟨"LinkAuditModel", "verdictOf", "(I)I"⟩
def y_LinkAuditModel_findField : MethodName := ⟨"LinkAuditModel", "findField", "(III)I"⟩
def y_LinkAuditModel_ownMember : MethodName := ⟨"LinkAuditModel", "ownMember", "(IZIII)I"⟩
def y_LinkAuditModel_findMethod : MethodName := ⟨"LinkAuditModel", "findMethod", "(IIII)I"⟩
def y_LinkAuditModel_specificBody : MethodName := ⟨"LinkAuditModel", "specificBody", "(IIII)I"⟩
def y_LinkAuditModel_counts : MethodName := ⟨"LinkAuditModel", "counts", "(IIIII)Z"⟩
def y_LinkAuditModel_hasFace : MethodName := ⟨"LinkAuditModel", "hasFace", "(II)Z"⟩
def y_LinkAuditModel_mostSpecific : MethodName := ⟨"LinkAuditModel", "mostSpecific", "(IIIII)Z"⟩
def y_LinkAuditModel_reaches : MethodName := ⟨"LinkAuditModel", "reaches", "(II)Z"⟩
def y_LinkAuditModel_isSub : MethodName := ⟨"LinkAuditModel", "isSub", "(II)Z"⟩
def y_LinkAuditModel_select : MethodName := ⟨"LinkAuditModel", "select", "(II)I"⟩
def y_LinkAuditModel_select2 : MethodName := ⟨"LinkAuditModel", "select2", "(II)I"⟩
def y_LinkAuditModel_selected : MethodName := ⟨"LinkAuditModel", "selected", "(II)I"⟩
def y_LinkAuditModel_covers : MethodName := ⟨"LinkAuditModel", "covers", "(II)Z"⟩
def y_LinkAuditModel_coversAtOnce : MethodName := ⟨"LinkAuditModel", "coversAtOnce", "(II)Z"⟩
def y_LinkAuditModel_like : MethodName := ⟨"LinkAuditModel", "like", "(II)Z"⟩
def y_LinkAuditModel_hidden : MethodName := ⟨"LinkAuditModel", "hidden", "(I)Z"⟩
def y_LinkAuditModel_joinWay : MethodName := ⟨"LinkAuditModel", "joinWay", "(II)V"⟩
def y_LinkAuditModel_overrides : MethodName := ⟨"LinkAuditModel", "overrides", "(II)Z"⟩
def y_LinkAuditModel_overridesIt : MethodName := ⟨"LinkAuditModel", "overridesIt", "(II)Z"⟩
def y_LinkAuditModel_gaps : MethodName := ⟨"LinkAuditModel", "gaps", "()I"⟩
def y_LinkAuditModel_allGaps : MethodName := ⟨"LinkAuditModel", "allGaps", "()I"⟩
def y_LinkAuditModel_conflicts : MethodName := ⟨"LinkAuditModel", "conflicts", "()I"⟩
def y_LinkAuditModel_allConflicts : MethodName := ⟨"LinkAuditModel", "allConflicts", "()V"⟩
def y_LinkAuditModel_constrain : MethodName := ⟨"LinkAuditModel", "constrain", "()V"⟩
def y_LinkAuditModel_mustBoth : MethodName := ⟨"LinkAuditModel", "mustBoth", "(III)V"⟩
def y_LinkAuditModel_must : MethodName := ⟨"LinkAuditModel", "must", "(III)V"⟩
def y_LinkAuditModel_conflict : MethodName := ⟨"LinkAuditModel", "conflict", "(II)I"⟩
def y_LinkAuditModel_faults : MethodName := ⟨"LinkAuditModel", "faults", "()I"⟩
def y_LinkAuditModel_count : MethodName := ⟨"LinkAuditModel", "count", "(I)I"⟩
def y_LinkAuditLaw_law : MethodName := ⟨"LinkAuditLaw", "law", "([I)Z"⟩
def T_LinkAudit : u_T := fun k => match k with
  | 0 => ("LinkAudit", "loaders", "LLinkAudit$Loaders;", true)
  | 1 => ("LinkAudit", "classes", "LLinkAudit$Classes;", true)
  | 2 => ("LinkAudit", "members", "LLinkAudit$Members;", true)
  | 3 => ("LinkAudit", "references", "LLinkAudit$References;", true)
  | 4 => ("LinkAudit", "links", "LLinkAudit$Links;", true)
  | 5 => ("LinkAudit", "resolver", "LLinkAudit$Resolver;", true)
  | 6 => ("LinkAudit", "selector", "LLinkAudit$Selector;", true)
  | 7 => ("LinkAudit", "agreements", "LLinkAudit$Agreements;", true)
  | 8 => ("LinkAudit", "linked", "Z", false)
  | _ => ("LinkAudit", "agreed", "Z", false)
def t_LinkAudit : Nat → FieldType := fun k => match k with
  | 0 => .object "LinkAudit$Loaders"
  | 1 => .object "LinkAudit$Classes"
  | 2 => .object "LinkAudit$Members"
  | 3 => .object "LinkAudit$References"
  | 4 => .object "LinkAudit$Links"
  | 5 => .object "LinkAudit$Resolver"
  | 6 => .object "LinkAudit$Selector"
  | 7 => .object "LinkAudit$Agreements"
  | 8 => .boolean
  | _ => .boolean
theorem n_LinkAudit : ∀ a, a < 10 → ∀ b, b < 10 → a ≠ b → (T_LinkAudit a).2.1 ≠ (T_LinkAudit b).2.1 := by decide +kernel
theorem t_LinkAudit_ok : ∀ k, k < 10 → parseFieldDescriptor (T_LinkAudit k).2.2.1 = some (t_LinkAudit k) := by decide +kernel
def T_Loaders : u_T := fun k => match k with
  | 0 => ("LinkAudit$Loaders", "providers", "[[I", true)
  | 1 => ("LinkAudit$Loaders", "providerCounts", "[I", true)
  | 2 => ("LinkAudit$Loaders", "masked", "[I", true)
  | _ => ("LinkAudit$Loaders", "own", "[[I", true)
def t_Loaders : Nat → FieldType := fun k => match k with
  | 0 => .array (.array .int)
  | 1 => .array .int
  | 2 => .array .int
  | _ => .array (.array .int)
theorem n_Loaders : ∀ a, a < 4 → ∀ b, b < 4 → a ≠ b → (T_Loaders a).2.1 ≠ (T_Loaders b).2.1 := by decide +kernel
theorem t_Loaders_ok : ∀ k, k < 4 → parseFieldDescriptor (T_Loaders k).2.2.1 = some (t_Loaders k) := by decide +kernel
def T_Classes : u_T := fun k => match k with
  | 0 => ("LinkAudit$Classes", "loaders", "[I", true)
  | 1 => ("LinkAudit$Classes", "names", "[I", true)
  | 2 => ("LinkAudit$Classes", "flags", "[I", true)
  | 3 => ("LinkAudit$Classes", "superNames", "[I", true)
  | 4 => ("LinkAudit$Classes", "interfaceNames", "[I", true)
  | _ => ("LinkAudit$Classes", "size", "I", false)
def t_Classes : Nat → FieldType := fun k => match k with
  | 0 => .array .int
  | 1 => .array .int
  | 2 => .array .int
  | 3 => .array .int
  | 4 => .array .int
  | _ => .int
theorem n_Classes : ∀ a, a < 6 → ∀ b, b < 6 → a ≠ b → (T_Classes a).2.1 ≠ (T_Classes b).2.1 := by decide +kernel
theorem t_Classes_ok : ∀ k, k < 6 → parseFieldDescriptor (T_Classes k).2.2.1 = some (t_Classes k) := by decide +kernel
def T_Members : u_T := fun k => match k with
  | 0 => ("LinkAudit$Members", "owners", "[I", true)
  | 1 => ("LinkAudit$Members", "signatures", "[I", true)
  | 2 => ("LinkAudit$Members", "flags", "[I", true)
  | 3 => ("LinkAudit$Members", "ofClass", "[J", true)
  | 4 => ("LinkAudit$Members", "virtualOnes", "J", false)
  | 5 => ("LinkAudit$Members", "abstractOnes", "J", false)
  | _ => ("LinkAudit$Members", "size", "I", false)
def t_Members : Nat → FieldType := fun k => match k with
  | 0 => .array .int
  | 1 => .array .int
  | 2 => .array .int
  | 3 => .array .long
  | 4 => .long
  | 5 => .long
  | _ => .int
theorem n_Members : ∀ a, a < 7 → ∀ b, b < 7 → a ≠ b → (T_Members a).2.1 ≠ (T_Members b).2.1 := by decide +kernel
theorem t_Members_ok : ∀ k, k < 7 → parseFieldDescriptor (T_Members k).2.2.1 = some (t_Members k) := by decide +kernel
def T_References : u_T := fun k => match k with
  | 0 => ("LinkAudit$References", "froms", "[I", true)
  | 1 => ("LinkAudit$References", "kinds", "[I", true)
  | 2 => ("LinkAudit$References", "classNames", "[I", true)
  | 3 => ("LinkAudit$References", "signatures", "[I", true)
  | _ => ("LinkAudit$References", "size", "I", false)
def t_References : Nat → FieldType := fun k => match k with
  | 0 => .array .int
  | 1 => .array .int
  | 2 => .array .int
  | 3 => .array .int
  | _ => .int
theorem n_References : ∀ a, a < 5 → ∀ b, b < 5 → a ≠ b → (T_References a).2.1 ≠ (T_References b).2.1 := by decide +kernel
theorem t_References_ok : ∀ k, k < 5 → parseFieldDescriptor (T_References k).2.2.1 = some (t_References k) := by decide +kernel
def T_Links : u_T := fun k => match k with
  | 0 => ("LinkAudit$Links", "loaders", "LLinkAudit$Loaders;", true)
  | 1 => ("LinkAudit$Links", "classes", "LLinkAudit$Classes;", true)
  | 2 => ("LinkAudit$Links", "codes", "[I", true)
  | 3 => ("LinkAudit$Links", "chains", "[[I", true)
  | 4 => ("LinkAudit$Links", "chainLengths", "[I", true)
  | 5 => ("LinkAudit$Links", "properSuperclasses", "[I", true)
  | 6 => ("LinkAudit$Links", "superinterfaces", "[I", true)
  | 7 => ("LinkAudit$Links", "order", "[I", true)
  | _ => ("LinkAudit$Links", "loadableCount", "I", false)
def t_Links : Nat → FieldType := fun k => match k with
  | 0 => .object "LinkAudit$Loaders"
  | 1 => .object "LinkAudit$Classes"
  | 2 => .array .int
  | 3 => .array (.array .int)
  | 4 => .array .int
  | 5 => .array .int
  | 6 => .array .int
  | 7 => .array .int
  | _ => .int
theorem n_Links : ∀ a, a < 9 → ∀ b, b < 9 → a ≠ b → (T_Links a).2.1 ≠ (T_Links b).2.1 := by decide +kernel
theorem t_Links_ok : ∀ k, k < 9 → parseFieldDescriptor (T_Links k).2.2.1 = some (t_Links k) := by decide +kernel
def T_Inheritance : u_T := fun k => match k with
  | 0 => ("LinkAudit$Inheritance", "links", "LLinkAudit$Links;", true)
  | _ => ("LinkAudit$Inheritance", "members", "LLinkAudit$Members;", true)
def t_Inheritance : Nat → FieldType := fun k => match k with
  | 0 => .object "LinkAudit$Links"
  | _ => .object "LinkAudit$Members"
theorem n_Inheritance : ∀ a, a < 2 → ∀ b, b < 2 → a ≠ b → (T_Inheritance a).2.1 ≠ (T_Inheritance b).2.1 := by decide +kernel
theorem t_Inheritance_ok : ∀ k, k < 2 → parseFieldDescriptor (T_Inheritance k).2.2.1 = some (t_Inheritance k) := by decide +kernel
def T_Resolver : u_T := fun k => match k with
  | 0 => ("LinkAudit$Resolver", "links", "LLinkAudit$Links;", true)
  | 1 => ("LinkAudit$Resolver", "classes", "LLinkAudit$Classes;", true)
  | 2 => ("LinkAudit$Resolver", "members", "LLinkAudit$Members;", true)
  | 3 => ("LinkAudit$Resolver", "references", "LLinkAudit$References;", true)
  | 4 => ("LinkAudit$Resolver", "inheritance", "LLinkAudit$Inheritance;", true)
  | _ => ("LinkAudit$Resolver", "searched", "I", false)
def t_Resolver : Nat → FieldType := fun k => match k with
  | 0 => .object "LinkAudit$Links"
  | 1 => .object "LinkAudit$Classes"
  | 2 => .object "LinkAudit$Members"
  | 3 => .object "LinkAudit$References"
  | 4 => .object "LinkAudit$Inheritance"
  | _ => .int
theorem n_Resolver : ∀ a, a < 6 → ∀ b, b < 6 → a ≠ b → (T_Resolver a).2.1 ≠ (T_Resolver b).2.1 := by decide +kernel
theorem t_Resolver_ok : ∀ k, k < 6 → parseFieldDescriptor (T_Resolver k).2.2.1 = some (t_Resolver k) := by decide +kernel
def T_Selector : u_T := fun k => match k with
  | 0 => ("LinkAudit$Selector", "links", "LLinkAudit$Links;", true)
  | 1 => ("LinkAudit$Selector", "classes", "LLinkAudit$Classes;", true)
  | 2 => ("LinkAudit$Selector", "members", "LLinkAudit$Members;", true)
  | 3 => ("LinkAudit$Selector", "inheritance", "LLinkAudit$Inheritance;", true)
  | _ => ("LinkAudit$Selector", "coveredAbove", "[J", true)
def t_Selector : Nat → FieldType := fun k => match k with
  | 0 => .object "LinkAudit$Links"
  | 1 => .object "LinkAudit$Classes"
  | 2 => .object "LinkAudit$Members"
  | 3 => .object "LinkAudit$Inheritance"
  | _ => .array .long
theorem n_Selector : ∀ a, a < 5 → ∀ b, b < 5 → a ≠ b → (T_Selector a).2.1 ≠ (T_Selector b).2.1 := by decide +kernel
theorem t_Selector_ok : ∀ k, k < 5 → parseFieldDescriptor (T_Selector k).2.2.1 = some (t_Selector k) := by decide +kernel
def T_Agreements : u_T := fun k => match k with
  | 0 => ("LinkAudit$Agreements", "loaders", "LLinkAudit$Loaders;", true)
  | 1 => ("LinkAudit$Agreements", "groups", "[[I", true)
  | 2 => ("LinkAudit$Agreements", "names", "[I", true)
  | 3 => ("LinkAudit$Agreements", "firsts", "[I", true)
  | 4 => ("LinkAudit$Agreements", "seconds", "[I", true)
  | _ => ("LinkAudit$Agreements", "size", "I", false)
def t_Agreements : Nat → FieldType := fun k => match k with
  | 0 => .object "LinkAudit$Loaders"
  | 1 => .array (.array .int)
  | 2 => .array .int
  | 3 => .array .int
  | 4 => .array .int
  | _ => .int
theorem n_Agreements : ∀ a, a < 6 → ∀ b, b < 6 → a ≠ b → (T_Agreements a).2.1 ≠ (T_Agreements b).2.1 := by decide +kernel
theorem t_Agreements_ok : ∀ k, k < 6 → parseFieldDescriptor (T_Agreements k).2.2.1 = some (t_Agreements k) := by decide +kernel
def T_LinkAuditModel : u_T := fun k => match k with
  | 0 => ("LinkAuditModel", "providers", "[I", true)
  | 1 => ("LinkAuditModel", "provider", "[I", true)
  | 2 => ("LinkAuditModel", "masks", "[I", true)
  | 3 => ("LinkAuditModel", "classes", "I", false)
  | 4 => ("LinkAuditModel", "loader", "[I", true)
  | 5 => ("LinkAuditModel", "name", "[I", true)
  | 6 => ("LinkAuditModel", "flags", "[I", true)
  | 7 => ("LinkAuditModel", "superName", "[I", true)
  | 8 => ("LinkAuditModel", "interfaceNames", "[I", true)
  | 9 => ("LinkAuditModel", "members", "I", false)
  | 10 => ("LinkAuditModel", "owner", "[I", true)
  | 11 => ("LinkAuditModel", "isMethod", "[Z", true)
  | 12 => ("LinkAuditModel", "called", "[I", true)
  | 13 => ("LinkAuditModel", "first", "[I", true)
  | 14 => ("LinkAuditModel", "second", "[I", true)
  | 15 => ("LinkAuditModel", "access", "[I", true)
  | 16 => ("LinkAuditModel", "references", "I", false)
  | 17 => ("LinkAuditModel", "reference", "[I", true)
  | 18 => ("LinkAuditModel", "code", "[I", true)
  | 19 => ("LinkAuditModel", "above", "[I", true)
  | 20 => ("LinkAuditModel", "faces", "[I", true)
  | 21 => ("LinkAuditModel", "line", "[I", true)
  | 22 => ("LinkAuditModel", "allFaces", "[I", true)
  | 23 => ("LinkAuditModel", "way", "[I", true)
  | 24 => ("LinkAuditModel", "step", "[I", true)
  | 25 => ("LinkAuditModel", "visit", "[I", true)
  | 26 => ("LinkAuditModel", "agree", "[Z", true)
  | 27 => ("LinkAuditModel", "conflicts", "I", false)
  | 28 => ("LinkAuditModel", "conflict", "[I", true)
  | 29 => ("LinkAuditModel", "cover", "[Z", true)
  | _ => ("LinkAuditModel", "chain", "[I", true)
def t_LinkAuditModel : Nat → FieldType := fun k => match k with
  | 0 => .array .int
  | 1 => .array .int
  | 2 => .array .int
  | 3 => .int
  | 4 => .array .int
  | 5 => .array .int
  | 6 => .array .int
  | 7 => .array .int
  | 8 => .array .int
  | 9 => .int
  | 10 => .array .int
  | 11 => .array .boolean
  | 12 => .array .int
  | 13 => .array .int
  | 14 => .array .int
  | 15 => .array .int
  | 16 => .int
  | 17 => .array .int
  | 18 => .array .int
  | 19 => .array .int
  | 20 => .array .int
  | 21 => .array .int
  | 22 => .array .int
  | 23 => .array .int
  | 24 => .array .int
  | 25 => .array .int
  | 26 => .array .boolean
  | 27 => .int
  | 28 => .array .int
  | 29 => .array .boolean
  | _ => .array .int
theorem n_LinkAuditModel : ∀ a, a < 31 → ∀ b, b < 31 → a ≠ b → (T_LinkAuditModel a).2.1 ≠ (T_LinkAuditModel b).2.1 := by decide +kernel
theorem t_LinkAuditModel_ok : ∀ k, k < 31 → parseFieldDescriptor (T_LinkAuditModel k).2.2.1 = some (t_LinkAuditModel k) := by decide +kernel
abbrev vwC : List vw_C := [("LinkAudit", T_LinkAudit, 10), ("LinkAudit$Loaders", T_Loaders, 4), ("LinkAudit$Classes", T_Classes, 6), ("LinkAudit$Members", T_Members, 7), ("LinkAudit$References", T_References, 5), ("LinkAudit$Links", T_Links, 9), ("LinkAudit$Inheritance", T_Inheritance, 2), ("LinkAudit$Resolver", T_Resolver, 6), ("LinkAudit$Selector", T_Selector, 5), ("LinkAudit$Agreements", T_Agreements, 6), ("LinkAuditModel", T_LinkAuditModel, 31)]
def nests : List (String × Nat × MethodName × String) := [("LinkAudit", 11, y_Loaders_init, "LinkAudit"), ("LinkAudit", 18, y_Classes_init, "LinkAudit"), ("LinkAudit", 25, y_Members_init, "LinkAudit"), ("LinkAudit", 32, y_References_init, "LinkAudit"), ("LinkAudit$Loaders", 26, y_LinkAudit_hasBit, "LinkAudit"), ("LinkAudit$Links", 59, y_LinkAudit_hasBit, "LinkAudit"), ("LinkAudit$Selector", 58, y_LinkAudit_hasBit, "LinkAudit"), ("LinkAudit$Selector", 80, y_LinkAudit_lowestBit, "LinkAudit"), ("LinkAudit$Resolver", 125, y_LinkAudit_hasBit, "LinkAudit"), ("LinkAudit$Resolver", 133, y_LinkAudit_lowestBit, "LinkAudit"), ("LinkAudit$Inheritance", 33, y_LinkAudit_hasBit, "LinkAudit")]
def Nst (U : State) : Prop := ∀ q ∈ nests, va_Nw (.methodLinkNest q.1 q.2.1 q.2.2.1 q.2.2.2) U
def Kk (D : va_G) (cI cL cG cZ : ClassId) (U : State) : Prop := va_K D vwC [(cI, .int), (cL, .long), (cG, .array .int), (cZ, .boolean)] U ∧ Nst U
theorem Kk_w {D : va_G} {cI cL cG cZ : ClassId} : Kw (Kk D cI cL cG cZ) := ⟨fun s U hW h => ⟨va_K.moved hW.alike h.1, fun q hq => va_Nw.warmM hW (h.2 q hq)⟩, fun U g mk a h => ⟨va_K.moved (u := U) (U := U.calling g mk a) (Vm.Alike.refl U.vm) h.1, fun q hq => va_Nw.same rfl rfl (h.2 q hq)⟩⟩
