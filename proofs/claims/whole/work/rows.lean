section
-- ===== PART A: goes FIRST, ahead of the names: the tables' words, and 'selects' of the private methods out of them =====
/-- a private method of a class that the tables say can be made, by its rows of tables_1 -/
def lw_okq (q : MethodName × Nat) : Prop := (q.1.cls ≠ "java/lang/invoke/MethodHandle" ∧ q.1.cls ≠ "java/lang/invoke/VarHandle") ∧ Cond.instantiable q.1.cls q.2 ∈ tables_1 ∧ Cond.privateMethod q.1 ∈ tables_1 ∧ Cond.instanceMethod q.1 ∈ tables_1
theorem lw_p0 : lw_okq (⟨"StarShells$Reader", "next", "()V"⟩, 11) := ⟨⟨by decide +kernel, by decide +kernel⟩, List.mem_of_getElem? (i := 46) (by decide +kernel), List.mem_of_getElem? (i := 402) (by decide +kernel), List.mem_of_getElem? (i := 403) (by decide +kernel)⟩
theorem lw_p1 : lw_okq (⟨"StarShells$Reader", "clause", "()Z"⟩, 11) := ⟨⟨by decide +kernel, by decide +kernel⟩, List.mem_of_getElem? (i := 46) (by decide +kernel), List.mem_of_getElem? (i := 419) (by decide +kernel), List.mem_of_getElem? (i := 420) (by decide +kernel)⟩
theorem lw_p2 : lw_okq (⟨"StarShells$Reader", "isWord", "(Ljava/lang/String;)Z"⟩, 11) := ⟨⟨by decide +kernel, by decide +kernel⟩, List.mem_of_getElem? (i := 46) (by decide +kernel), List.mem_of_getElem? (i := 424) (by decide +kernel), List.mem_of_getElem? (i := 425) (by decide +kernel)⟩
theorem lw_p3 : lw_okq (⟨"StarShells$Reader", "hasRoom", "()Z"⟩, 11) := ⟨⟨by decide +kernel, by decide +kernel⟩, List.mem_of_getElem? (i := 46) (by decide +kernel), List.mem_of_getElem? (i := 476) (by decide +kernel), List.mem_of_getElem? (i := 477) (by decide +kernel)⟩
theorem lw_p4 : lw_okq (⟨"StarShells$Reader", "blame", "(I)Z"⟩, 11) := ⟨⟨by decide +kernel, by decide +kernel⟩, List.mem_of_getElem? (i := 46) (by decide +kernel), List.mem_of_getElem? (i := 480) (by decide +kernel), List.mem_of_getElem? (i := 481) (by decide +kernel)⟩
theorem lw_p5 : lw_okq (⟨"StarShells$Reader", "kindClause", "()Z"⟩, 11) := ⟨⟨by decide +kernel, by decide +kernel⟩, List.mem_of_getElem? (i := 46) (by decide +kernel), List.mem_of_getElem? (i := 484) (by decide +kernel), List.mem_of_getElem? (i := 485) (by decide +kernel)⟩
theorem lw_p6 : lw_okq (⟨"StarShells$Reader", "atKind", "()Z"⟩, 11) := ⟨⟨by decide +kernel, by decide +kernel⟩, List.mem_of_getElem? (i := 46) (by decide +kernel), List.mem_of_getElem? (i := 488) (by decide +kernel), List.mem_of_getElem? (i := 489) (by decide +kernel)⟩
theorem lw_p7 : lw_okq (⟨"StarShells$Reader", "once", "(I)Z"⟩, 11) := ⟨⟨by decide +kernel, by decide +kernel⟩, List.mem_of_getElem? (i := 46) (by decide +kernel), List.mem_of_getElem? (i := 492) (by decide +kernel), List.mem_of_getElem? (i := 493) (by decide +kernel)⟩
theorem lw_p8 : lw_okq (⟨"StarShells$Reader", "takeNumber", "(II)Z"⟩, 11) := ⟨⟨by decide +kernel, by decide +kernel⟩, List.mem_of_getElem? (i := 46) (by decide +kernel), List.mem_of_getElem? (i := 496) (by decide +kernel), List.mem_of_getElem? (i := 497) (by decide +kernel)⟩
theorem lw_p9 : lw_okq (⟨"StarShells$Reader", "atNumber", "(II)Z"⟩, 11) := ⟨⟨by decide +kernel, by decide +kernel⟩, List.mem_of_getElem? (i := 46) (by decide +kernel), List.mem_of_getElem? (i := 500) (by decide +kernel), List.mem_of_getElem? (i := 501) (by decide +kernel)⟩
theorem lw_p10 : lw_okq (⟨"StarShells$Reader", "takeSign", "(I)Z"⟩, 11) := ⟨⟨by decide +kernel, by decide +kernel⟩, List.mem_of_getElem? (i := 46) (by decide +kernel), List.mem_of_getElem? (i := 504) (by decide +kernel), List.mem_of_getElem? (i := 505) (by decide +kernel)⟩
theorem lw_p11 : lw_okq (⟨"StarShells$Reader", "chainClause", "()Z"⟩, 11) := ⟨⟨by decide +kernel, by decide +kernel⟩, List.mem_of_getElem? (i := 46) (by decide +kernel), List.mem_of_getElem? (i := 509) (by decide +kernel), List.mem_of_getElem? (i := 510) (by decide +kernel)⟩
theorem lw_p12 : lw_okq (⟨"StarShells$Reader", "takeKind", "(I)Z"⟩, 11) := ⟨⟨by decide +kernel, by decide +kernel⟩, List.mem_of_getElem? (i := 46) (by decide +kernel), List.mem_of_getElem? (i := 513) (by decide +kernel), List.mem_of_getElem? (i := 514) (by decide +kernel)⟩
theorem lw_p13 : lw_okq (⟨"StarShells$Reader", "takeWord", "(Ljava/lang/String;)Z"⟩, 11) := ⟨⟨by decide +kernel, by decide +kernel⟩, List.mem_of_getElem? (i := 46) (by decide +kernel), List.mem_of_getElem? (i := 518) (by decide +kernel), List.mem_of_getElem? (i := 519) (by decide +kernel)⟩
theorem lw_p14 : lw_okq (⟨"StarShells$Reader", "rateNumber", "()Z"⟩, 11) := ⟨⟨by decide +kernel, by decide +kernel⟩, List.mem_of_getElem? (i := 46) (by decide +kernel), List.mem_of_getElem? (i := 524) (by decide +kernel), List.mem_of_getElem? (i := 525) (by decide +kernel)⟩
theorem lw_p15 : lw_okq (⟨"StarShells$Reader", "tableClause", "(I)Z"⟩, 11) := ⟨⟨by decide +kernel, by decide +kernel⟩, List.mem_of_getElem? (i := 46) (by decide +kernel), List.mem_of_getElem? (i := 528) (by decide +kernel), List.mem_of_getElem? (i := 529) (by decide +kernel)⟩
def lw_privs_1 : List (MethodName × Nat) := [(⟨"StarShells$Reader", "next", "()V"⟩, 11), (⟨"StarShells$Reader", "clause", "()Z"⟩, 11), (⟨"StarShells$Reader", "isWord", "(Ljava/lang/String;)Z"⟩, 11), (⟨"StarShells$Reader", "hasRoom", "()Z"⟩, 11), (⟨"StarShells$Reader", "blame", "(I)Z"⟩, 11), (⟨"StarShells$Reader", "kindClause", "()Z"⟩, 11), (⟨"StarShells$Reader", "atKind", "()Z"⟩, 11), (⟨"StarShells$Reader", "once", "(I)Z"⟩, 11), (⟨"StarShells$Reader", "takeNumber", "(II)Z"⟩, 11), (⟨"StarShells$Reader", "atNumber", "(II)Z"⟩, 11), (⟨"StarShells$Reader", "takeSign", "(I)Z"⟩, 11), (⟨"StarShells$Reader", "chainClause", "()Z"⟩, 11), (⟨"StarShells$Reader", "takeKind", "(I)Z"⟩, 11), (⟨"StarShells$Reader", "takeWord", "(Ljava/lang/String;)Z"⟩, 11), (⟨"StarShells$Reader", "rateNumber", "()Z"⟩, 11), (⟨"StarShells$Reader", "tableClause", "(I)Z"⟩, 11)]
theorem lw_r1 : ∀ q ∈ lw_privs_1, lw_okq q := List.forall_mem_cons.mpr ⟨lw_p0, List.forall_mem_cons.mpr ⟨lw_p1, List.forall_mem_cons.mpr ⟨lw_p2, List.forall_mem_cons.mpr ⟨lw_p3, List.forall_mem_cons.mpr ⟨lw_p4, List.forall_mem_cons.mpr ⟨lw_p5, List.forall_mem_cons.mpr ⟨lw_p6, List.forall_mem_cons.mpr ⟨lw_p7, List.forall_mem_cons.mpr ⟨lw_p8, List.forall_mem_cons.mpr ⟨lw_p9, List.forall_mem_cons.mpr ⟨lw_p10, List.forall_mem_cons.mpr ⟨lw_p11, List.forall_mem_cons.mpr ⟨lw_p12, List.forall_mem_cons.mpr ⟨lw_p13, List.forall_mem_cons.mpr ⟨lw_p14, List.forall_mem_cons.mpr ⟨lw_p15, fun _ h => absurd h List.not_mem_nil⟩⟩⟩⟩⟩⟩⟩⟩⟩⟩⟩⟩⟩⟩⟩⟩
theorem lw_p16 : lw_okq (⟨"StarShells", "lawsNow", "()LStarShells$Laws;"⟩, 12) := ⟨⟨by decide +kernel, by decide +kernel⟩, List.mem_of_getElem? (i := 21) (by decide +kernel), List.mem_of_getElem? (i := 562) (by decide +kernel), List.mem_of_getElem? (i := 563) (by decide +kernel)⟩
theorem lw_p17 : lw_okq (⟨"StarShells", "isShell", "(II)Z"⟩, 12) := ⟨⟨by decide +kernel, by decide +kernel⟩, List.mem_of_getElem? (i := 21) (by decide +kernel), List.mem_of_getElem? (i := 608) (by decide +kernel), List.mem_of_getElem? (i := 609) (by decide +kernel)⟩
theorem lw_p18 : lw_okq (⟨"StarShells", "enter", "(I)V"⟩, 12) := ⟨⟨by decide +kernel, by decide +kernel⟩, List.mem_of_getElem? (i := 21) (by decide +kernel), List.mem_of_getElem? (i := 634) (by decide +kernel), List.mem_of_getElem? (i := 635) (by decide +kernel)⟩
theorem lw_p19 : lw_okq (⟨"StarShells$Boxes", "keep", "(II)V"⟩, 5) := ⟨⟨by decide +kernel, by decide +kernel⟩, List.mem_of_getElem? (i := 250) (by decide +kernel), List.mem_of_getElem? (i := 652) (by decide +kernel), List.mem_of_getElem? (i := 653) (by decide +kernel)⟩
theorem lw_p20 : lw_okq (⟨"StarShells$Boxes", "narrowToNeed", "(LStarShells$Laws;IIJ)V"⟩, 5) := ⟨⟨by decide +kernel, by decide +kernel⟩, List.mem_of_getElem? (i := 250) (by decide +kernel), List.mem_of_getElem? (i := 660) (by decide +kernel), List.mem_of_getElem? (i := 661) (by decide +kernel)⟩
theorem lw_p21 : lw_okq (⟨"StarShells$Boxes", "narrow", "(IIJ)V"⟩, 5) := ⟨⟨by decide +kernel, by decide +kernel⟩, List.mem_of_getElem? (i := 250) (by decide +kernel), List.mem_of_getElem? (i := 664) (by decide +kernel), List.mem_of_getElem? (i := 665) (by decide +kernel)⟩
theorem lw_p22 : lw_okq (⟨"StarShells$Inside", "made", "(LStarShells$Star;ILStarShells$Laws;Z)J"⟩, 11) := ⟨⟨by decide +kernel, by decide +kernel⟩, List.mem_of_getElem? (i := 244) (by decide +kernel), List.mem_of_getElem? (i := 682) (by decide +kernel), List.mem_of_getElem? (i := 683) (by decide +kernel)⟩
theorem lw_p23 : lw_okq (⟨"StarShells$Inside", "spanFrom", "(I)I"⟩, 11) := ⟨⟨by decide +kernel, by decide +kernel⟩, List.mem_of_getElem? (i := 244) (by decide +kernel), List.mem_of_getElem? (i := 687) (by decide +kernel), List.mem_of_getElem? (i := 688) (by decide +kernel)⟩
theorem lw_p24 : lw_okq (⟨"StarShells$Inside", "spanTo", "(I)I"⟩, 11) := ⟨⟨by decide +kernel, by decide +kernel⟩, List.mem_of_getElem? (i := 244) (by decide +kernel), List.mem_of_getElem? (i := 691) (by decide +kernel), List.mem_of_getElem? (i := 692) (by decide +kernel)⟩
theorem lw_p25 : lw_okq (⟨"StarShells$Inside", "haze", "(ILStarShells$Laws;Z)I"⟩, 11) := ⟨⟨by decide +kernel, by decide +kernel⟩, List.mem_of_getElem? (i := 244) (by decide +kernel), List.mem_of_getElem? (i := 708) (by decide +kernel), List.mem_of_getElem? (i := 709) (by decide +kernel)⟩
theorem lw_p26 : lw_okq (⟨"StarShells", "makeStep", "(I)Z"⟩, 12) := ⟨⟨by decide +kernel, by decide +kernel⟩, List.mem_of_getElem? (i := 21) (by decide +kernel), List.mem_of_getElem? (i := 731) (by decide +kernel), List.mem_of_getElem? (i := 732) (by decide +kernel)⟩
theorem lw_p27 : lw_okq (⟨"StarShells", "burnShell", "(LStarShells$Star;I)V"⟩, 12) := ⟨⟨by decide +kernel, by decide +kernel⟩, List.mem_of_getElem? (i := 21) (by decide +kernel), List.mem_of_getElem? (i := 735) (by decide +kernel), List.mem_of_getElem? (i := 736) (by decide +kernel)⟩
theorem lw_p28 : lw_okq (⟨"StarShells", "tellEvents", "(II)V"⟩, 12) := ⟨⟨by decide +kernel, by decide +kernel⟩, List.mem_of_getElem? (i := 21) (by decide +kernel), List.mem_of_getElem? (i := 745) (by decide +kernel), List.mem_of_getElem? (i := 746) (by decide +kernel)⟩
theorem lw_p29 : lw_okq (⟨"StarShells", "keepEvent", "(IIII)V"⟩, 12) := ⟨⟨by decide +kernel, by decide +kernel⟩, List.mem_of_getElem? (i := 21) (by decide +kernel), List.mem_of_getElem? (i := 749) (by decide +kernel), List.mem_of_getElem? (i := 750) (by decide +kernel)⟩
theorem lw_p30 : lw_okq (⟨"StarShells", "mixChurned", "(LStarShells$Star;)V"⟩, 12) := ⟨⟨by decide +kernel, by decide +kernel⟩, List.mem_of_getElem? (i := 21) (by decide +kernel), List.mem_of_getElem? (i := 753) (by decide +kernel), List.mem_of_getElem? (i := 754) (by decide +kernel)⟩
theorem lw_p31 : lw_okq (⟨"StarShells", "hear", "(I)Z"⟩, 12) := ⟨⟨by decide +kernel, by decide +kernel⟩, List.mem_of_getElem? (i := 21) (by decide +kernel), List.mem_of_getElem? (i := 803) (by decide +kernel), List.mem_of_getElem? (i := 804) (by decide +kernel)⟩
def lw_privs_2 : List (MethodName × Nat) := [(⟨"StarShells", "lawsNow", "()LStarShells$Laws;"⟩, 12), (⟨"StarShells", "isShell", "(II)Z"⟩, 12), (⟨"StarShells", "enter", "(I)V"⟩, 12), (⟨"StarShells$Boxes", "keep", "(II)V"⟩, 5), (⟨"StarShells$Boxes", "narrowToNeed", "(LStarShells$Laws;IIJ)V"⟩, 5), (⟨"StarShells$Boxes", "narrow", "(IIJ)V"⟩, 5), (⟨"StarShells$Inside", "made", "(LStarShells$Star;ILStarShells$Laws;Z)J"⟩, 11), (⟨"StarShells$Inside", "spanFrom", "(I)I"⟩, 11), (⟨"StarShells$Inside", "spanTo", "(I)I"⟩, 11), (⟨"StarShells$Inside", "haze", "(ILStarShells$Laws;Z)I"⟩, 11), (⟨"StarShells", "makeStep", "(I)Z"⟩, 12), (⟨"StarShells", "burnShell", "(LStarShells$Star;I)V"⟩, 12), (⟨"StarShells", "tellEvents", "(II)V"⟩, 12), (⟨"StarShells", "keepEvent", "(IIII)V"⟩, 12), (⟨"StarShells", "mixChurned", "(LStarShells$Star;)V"⟩, 12), (⟨"StarShells", "hear", "(I)Z"⟩, 12)]
theorem lw_r2 : ∀ q ∈ lw_privs_2, lw_okq q := List.forall_mem_cons.mpr ⟨lw_p16, List.forall_mem_cons.mpr ⟨lw_p17, List.forall_mem_cons.mpr ⟨lw_p18, List.forall_mem_cons.mpr ⟨lw_p19, List.forall_mem_cons.mpr ⟨lw_p20, List.forall_mem_cons.mpr ⟨lw_p21, List.forall_mem_cons.mpr ⟨lw_p22, List.forall_mem_cons.mpr ⟨lw_p23, List.forall_mem_cons.mpr ⟨lw_p24, List.forall_mem_cons.mpr ⟨lw_p25, List.forall_mem_cons.mpr ⟨lw_p26, List.forall_mem_cons.mpr ⟨lw_p27, List.forall_mem_cons.mpr ⟨lw_p28, List.forall_mem_cons.mpr ⟨lw_p29, List.forall_mem_cons.mpr ⟨lw_p30, List.forall_mem_cons.mpr ⟨lw_p31, fun _ h => absurd h List.not_mem_nil⟩⟩⟩⟩⟩⟩⟩⟩⟩⟩⟩⟩⟩⟩⟩⟩
theorem lw_p32 : lw_okq (⟨"StarShells", "sawLight", "(I)Z"⟩, 12) := ⟨⟨by decide +kernel, by decide +kernel⟩, List.mem_of_getElem? (i := 21) (by decide +kernel), List.mem_of_getElem? (i := 833) (by decide +kernel), List.mem_of_getElem? (i := 834) (by decide +kernel)⟩
theorem lw_p33 : lw_okq (⟨"StarShells", "fitsWith", "(IIZ)Z"⟩, 12) := ⟨⟨by decide +kernel, by decide +kernel⟩, List.mem_of_getElem? (i := 21) (by decide +kernel), List.mem_of_getElem? (i := 837) (by decide +kernel), List.mem_of_getElem? (i := 838) (by decide +kernel)⟩
theorem lw_p34 : lw_okq (⟨"StarShells", "agrees", "(IZ)Z"⟩, 12) := ⟨⟨by decide +kernel, by decide +kernel⟩, List.mem_of_getElem? (i := 21) (by decide +kernel), List.mem_of_getElem? (i := 841) (by decide +kernel), List.mem_of_getElem? (i := 842) (by decide +kernel)⟩
theorem lw_p35 : lw_okq (⟨"StarShellsModel", "copies", "(Z)V"⟩, 28) := ⟨⟨by decide +kernel, by decide +kernel⟩, List.mem_of_getElem? (i := 866) (by decide +kernel), List.mem_of_getElem? (i := 872) (by decide +kernel), List.mem_of_getElem? (i := 873) (by decide +kernel)⟩
theorem lw_p36 : lw_okq (⟨"StarShellsModel", "put", "(I)V"⟩, 28) := ⟨⟨by decide +kernel, by decide +kernel⟩, List.mem_of_getElem? (i := 866) (by decide +kernel), List.mem_of_getElem? (i := 965) (by decide +kernel), List.mem_of_getElem? (i := 966) (by decide +kernel)⟩
theorem lw_p37 : lw_okq (⟨"StarShellsModel", "next", "()V"⟩, 28) := ⟨⟨by decide +kernel, by decide +kernel⟩, List.mem_of_getElem? (i := 866) (by decide +kernel), List.mem_of_getElem? (i := 980) (by decide +kernel), List.mem_of_getElem? (i := 981) (by decide +kernel)⟩
theorem lw_p38 : lw_okq (⟨"StarShellsModel", "errs", "(I)V"⟩, 28) := ⟨⟨by decide +kernel, by decide +kernel⟩, List.mem_of_getElem? (i := 866) (by decide +kernel), List.mem_of_getElem? (i := 1006) (by decide +kernel), List.mem_of_getElem? (i := 1007) (by decide +kernel)⟩
theorem lw_p39 : lw_okq (⟨"StarShellsModel", "clause", "()V"⟩, 28) := ⟨⟨by decide +kernel, by decide +kernel⟩, List.mem_of_getElem? (i := 866) (by decide +kernel), List.mem_of_getElem? (i := 1010) (by decide +kernel), List.mem_of_getElem? (i := 1011) (by decide +kernel)⟩
theorem lw_p40 : lw_okq (⟨"StarShellsModel", "once", "(I)V"⟩, 28) := ⟨⟨by decide +kernel, by decide +kernel⟩, List.mem_of_getElem? (i := 866) (by decide +kernel), List.mem_of_getElem? (i := 1014) (by decide +kernel), List.mem_of_getElem? (i := 1015) (by decide +kernel)⟩
theorem lw_p41 : lw_okq (⟨"StarShellsModel", "kindClause", "()V"⟩, 28) := ⟨⟨by decide +kernel, by decide +kernel⟩, List.mem_of_getElem? (i := 866) (by decide +kernel), List.mem_of_getElem? (i := 1018) (by decide +kernel), List.mem_of_getElem? (i := 1019) (by decide +kernel)⟩
theorem lw_p42 : lw_okq (⟨"StarShellsModel", "kindOf", "()I"⟩, 28) := ⟨⟨by decide +kernel, by decide +kernel⟩, List.mem_of_getElem? (i := 866) (by decide +kernel), List.mem_of_getElem? (i := 1022) (by decide +kernel), List.mem_of_getElem? (i := 1023) (by decide +kernel)⟩
theorem lw_p43 : lw_okq (⟨"StarShellsModel", "number", "(II)I"⟩, 28) := ⟨⟨by decide +kernel, by decide +kernel⟩, List.mem_of_getElem? (i := 866) (by decide +kernel), List.mem_of_getElem? (i := 1026) (by decide +kernel), List.mem_of_getElem? (i := 1027) (by decide +kernel)⟩
theorem lw_p44 : lw_okq (⟨"StarShellsModel", "chainClause", "()V"⟩, 28) := ⟨⟨by decide +kernel, by decide +kernel⟩, List.mem_of_getElem? (i := 866) (by decide +kernel), List.mem_of_getElem? (i := 1030) (by decide +kernel), List.mem_of_getElem? (i := 1031) (by decide +kernel)⟩
theorem lw_p45 : lw_okq (⟨"StarShellsModel", "takes", "(II)V"⟩, 28) := ⟨⟨by decide +kernel, by decide +kernel⟩, List.mem_of_getElem? (i := 866) (by decide +kernel), List.mem_of_getElem? (i := 1035) (by decide +kernel), List.mem_of_getElem? (i := 1036) (by decide +kernel)⟩
theorem lw_p46 : lw_okq (⟨"StarShellsModel", "tableClause", "(I)V"⟩, 28) := ⟨⟨by decide +kernel, by decide +kernel⟩, List.mem_of_getElem? (i := 866) (by decide +kernel), List.mem_of_getElem? (i := 1039) (by decide +kernel), List.mem_of_getElem? (i := 1040) (by decide +kernel)⟩
theorem lw_p47 : lw_okq (⟨"StarShellsModel", "isEven", "()Z"⟩, 28) := ⟨⟨by decide +kernel, by decide +kernel⟩, List.mem_of_getElem? (i := 866) (by decide +kernel), List.mem_of_getElem? (i := 1044) (by decide +kernel), List.mem_of_getElem? (i := 1045) (by decide +kernel)⟩
def lw_privs_3 : List (MethodName × Nat) := [(⟨"StarShells", "sawLight", "(I)Z"⟩, 12), (⟨"StarShells", "fitsWith", "(IIZ)Z"⟩, 12), (⟨"StarShells", "agrees", "(IZ)Z"⟩, 12), (⟨"StarShellsModel", "copies", "(Z)V"⟩, 28), (⟨"StarShellsModel", "put", "(I)V"⟩, 28), (⟨"StarShellsModel", "next", "()V"⟩, 28), (⟨"StarShellsModel", "errs", "(I)V"⟩, 28), (⟨"StarShellsModel", "clause", "()V"⟩, 28), (⟨"StarShellsModel", "once", "(I)V"⟩, 28), (⟨"StarShellsModel", "kindClause", "()V"⟩, 28), (⟨"StarShellsModel", "kindOf", "()I"⟩, 28), (⟨"StarShellsModel", "number", "(II)I"⟩, 28), (⟨"StarShellsModel", "chainClause", "()V"⟩, 28), (⟨"StarShellsModel", "takes", "(II)V"⟩, 28), (⟨"StarShellsModel", "tableClause", "(I)V"⟩, 28), (⟨"StarShellsModel", "isEven", "()Z"⟩, 28)]
theorem lw_r3 : ∀ q ∈ lw_privs_3, lw_okq q := List.forall_mem_cons.mpr ⟨lw_p32, List.forall_mem_cons.mpr ⟨lw_p33, List.forall_mem_cons.mpr ⟨lw_p34, List.forall_mem_cons.mpr ⟨lw_p35, List.forall_mem_cons.mpr ⟨lw_p36, List.forall_mem_cons.mpr ⟨lw_p37, List.forall_mem_cons.mpr ⟨lw_p38, List.forall_mem_cons.mpr ⟨lw_p39, List.forall_mem_cons.mpr ⟨lw_p40, List.forall_mem_cons.mpr ⟨lw_p41, List.forall_mem_cons.mpr ⟨lw_p42, List.forall_mem_cons.mpr ⟨lw_p43, List.forall_mem_cons.mpr ⟨lw_p44, List.forall_mem_cons.mpr ⟨lw_p45, List.forall_mem_cons.mpr ⟨lw_p46, List.forall_mem_cons.mpr ⟨lw_p47, fun _ h => absurd h List.not_mem_nil⟩⟩⟩⟩⟩⟩⟩⟩⟩⟩⟩⟩⟩⟩⟩⟩
theorem lw_p48 : lw_okq (⟨"StarShellsModel", "weightOf", "(I)I"⟩, 28) := ⟨⟨by decide +kernel, by decide +kernel⟩, List.mem_of_getElem? (i := 866) (by decide +kernel), List.mem_of_getElem? (i := 1061) (by decide +kernel), List.mem_of_getElem? (i := 1062) (by decide +kernel)⟩
theorem lw_p49 : lw_okq (⟨"StarShellsModel", "says", "(I)I"⟩, 28) := ⟨⟨by decide +kernel, by decide +kernel⟩, List.mem_of_getElem? (i := 866) (by decide +kernel), List.mem_of_getElem? (i := 1065) (by decide +kernel), List.mem_of_getElem? (i := 1066) (by decide +kernel)⟩
theorem lw_p50 : lw_okq (⟨"StarShellsModel", "isChain", "(I)Z"⟩, 28) := ⟨⟨by decide +kernel, by decide +kernel⟩, List.mem_of_getElem? (i := 866) (by decide +kernel), List.mem_of_getElem? (i := 1073) (by decide +kernel), List.mem_of_getElem? (i := 1074) (by decide +kernel)⟩
theorem lw_p51 : lw_okq (⟨"StarShellsModel", "chainOf", "(II)I"⟩, 28) := ⟨⟨by decide +kernel, by decide +kernel⟩, List.mem_of_getElem? (i := 866) (by decide +kernel), List.mem_of_getElem? (i := 1077) (by decide +kernel), List.mem_of_getElem? (i := 1078) (by decide +kernel)⟩
theorem lw_p52 : lw_okq (⟨"StarShellsModel", "spanOf", "(IIZ)I"⟩, 28) := ⟨⟨by decide +kernel, by decide +kernel⟩, List.mem_of_getElem? (i := 866) (by decide +kernel), List.mem_of_getElem? (i := 1086) (by decide +kernel), List.mem_of_getElem? (i := 1087) (by decide +kernel)⟩
theorem lw_p53 : lw_okq (⟨"StarShellsModel", "isShell", "(II)Z"⟩, 28) := ⟨⟨by decide +kernel, by decide +kernel⟩, List.mem_of_getElem? (i := 866) (by decide +kernel), List.mem_of_getElem? (i := 1104) (by decide +kernel), List.mem_of_getElem? (i := 1105) (by decide +kernel)⟩
theorem lw_p54 : lw_okq (⟨"StarShellsModel", "sets", "(IIII)V"⟩, 28) := ⟨⟨by decide +kernel, by decide +kernel⟩, List.mem_of_getElem? (i := 866) (by decide +kernel), List.mem_of_getElem? (i := 1109) (by decide +kernel), List.mem_of_getElem? (i := 1110) (by decide +kernel)⟩
theorem lw_p55 : lw_okq (⟨"StarShellsModel", "partsAt", "(III)I"⟩, 28) := ⟨⟨by decide +kernel, by decide +kernel⟩, List.mem_of_getElem? (i := 866) (by decide +kernel), List.mem_of_getElem? (i := 1117) (by decide +kernel), List.mem_of_getElem? (i := 1118) (by decide +kernel)⟩
theorem lw_p56 : lw_okq (⟨"StarShellsModel", "weighs", "(II)I"⟩, 28) := ⟨⟨by decide +kernel, by decide +kernel⟩, List.mem_of_getElem? (i := 866) (by decide +kernel), List.mem_of_getElem? (i := 1130) (by decide +kernel), List.mem_of_getElem? (i := 1131) (by decide +kernel)⟩
theorem lw_p57 : lw_okq (⟨"StarShellsModel", "spans", "()V"⟩, 28) := ⟨⟨by decide +kernel, by decide +kernel⟩, List.mem_of_getElem? (i := 866) (by decide +kernel), List.mem_of_getElem? (i := 1134) (by decide +kernel), List.mem_of_getElem? (i := 1135) (by decide +kernel)⟩
theorem lw_p58 : lw_okq (⟨"StarShellsModel", "settles", "(II)Z"⟩, 28) := ⟨⟨by decide +kernel, by decide +kernel⟩, List.mem_of_getElem? (i := 866) (by decide +kernel), List.mem_of_getElem? (i := 1138) (by decide +kernel), List.mem_of_getElem? (i := 1139) (by decide +kernel)⟩
theorem lw_p59 : lw_okq (⟨"StarShellsModel", "needOf", "(III)I"⟩, 28) := ⟨⟨by decide +kernel, by decide +kernel⟩, List.mem_of_getElem? (i := 866) (by decide +kernel), List.mem_of_getElem? (i := 1142) (by decide +kernel), List.mem_of_getElem? (i := 1143) (by decide +kernel)⟩
theorem lw_p60 : lw_okq (⟨"StarShellsModel", "canBe", "(II)Z"⟩, 28) := ⟨⟨by decide +kernel, by decide +kernel⟩, List.mem_of_getElem? (i := 866) (by decide +kernel), List.mem_of_getElem? (i := 1146) (by decide +kernel), List.mem_of_getElem? (i := 1147) (by decide +kernel)⟩
theorem lw_p61 : lw_okq (⟨"StarShellsModel", "churns", "(II)I"⟩, 28) := ⟨⟨by decide +kernel, by decide +kernel⟩, List.mem_of_getElem? (i := 866) (by decide +kernel), List.mem_of_getElem? (i := 1150) (by decide +kernel), List.mem_of_getElem? (i := 1151) (by decide +kernel)⟩
theorem lw_p62 : lw_okq (⟨"StarShellsModel", "throughOf", "(IIZ)J"⟩, 28) := ⟨⟨by decide +kernel, by decide +kernel⟩, List.mem_of_getElem? (i := 866) (by decide +kernel), List.mem_of_getElem? (i := 1154) (by decide +kernel), List.mem_of_getElem? (i := 1155) (by decide +kernel)⟩
theorem lw_p63 : lw_okq (⟨"StarShellsModel", "goes", "(I)V"⟩, 28) := ⟨⟨by decide +kernel, by decide +kernel⟩, List.mem_of_getElem? (i := 866) (by decide +kernel), List.mem_of_getElem? (i := 1183) (by decide +kernel), List.mem_of_getElem? (i := 1184) (by decide +kernel)⟩
def lw_privs_4 : List (MethodName × Nat) := [(⟨"StarShellsModel", "weightOf", "(I)I"⟩, 28), (⟨"StarShellsModel", "says", "(I)I"⟩, 28), (⟨"StarShellsModel", "isChain", "(I)Z"⟩, 28), (⟨"StarShellsModel", "chainOf", "(II)I"⟩, 28), (⟨"StarShellsModel", "spanOf", "(IIZ)I"⟩, 28), (⟨"StarShellsModel", "isShell", "(II)Z"⟩, 28), (⟨"StarShellsModel", "sets", "(IIII)V"⟩, 28), (⟨"StarShellsModel", "partsAt", "(III)I"⟩, 28), (⟨"StarShellsModel", "weighs", "(II)I"⟩, 28), (⟨"StarShellsModel", "spans", "()V"⟩, 28), (⟨"StarShellsModel", "settles", "(II)Z"⟩, 28), (⟨"StarShellsModel", "needOf", "(III)I"⟩, 28), (⟨"StarShellsModel", "canBe", "(II)Z"⟩, 28), (⟨"StarShellsModel", "churns", "(II)I"⟩, 28), (⟨"StarShellsModel", "throughOf", "(IIZ)J"⟩, 28), (⟨"StarShellsModel", "goes", "(I)V"⟩, 28)]
theorem lw_r4 : ∀ q ∈ lw_privs_4, lw_okq q := List.forall_mem_cons.mpr ⟨lw_p48, List.forall_mem_cons.mpr ⟨lw_p49, List.forall_mem_cons.mpr ⟨lw_p50, List.forall_mem_cons.mpr ⟨lw_p51, List.forall_mem_cons.mpr ⟨lw_p52, List.forall_mem_cons.mpr ⟨lw_p53, List.forall_mem_cons.mpr ⟨lw_p54, List.forall_mem_cons.mpr ⟨lw_p55, List.forall_mem_cons.mpr ⟨lw_p56, List.forall_mem_cons.mpr ⟨lw_p57, List.forall_mem_cons.mpr ⟨lw_p58, List.forall_mem_cons.mpr ⟨lw_p59, List.forall_mem_cons.mpr ⟨lw_p60, List.forall_mem_cons.mpr ⟨lw_p61, List.forall_mem_cons.mpr ⟨lw_p62, List.forall_mem_cons.mpr ⟨lw_p63, fun _ h => absurd h List.not_mem_nil⟩⟩⟩⟩⟩⟩⟩⟩⟩⟩⟩⟩⟩⟩⟩⟩
theorem lw_p64 : lw_okq (⟨"StarShellsModel", "burns", "(III)V"⟩, 28) := ⟨⟨by decide +kernel, by decide +kernel⟩, List.mem_of_getElem? (i := 866) (by decide +kernel), List.mem_of_getElem? (i := 1187) (by decide +kernel), List.mem_of_getElem? (i := 1188) (by decide +kernel)⟩
theorem lw_p65 : lw_okq (⟨"StarShellsModel", "looksAt", "(III)V"⟩, 28) := ⟨⟨by decide +kernel, by decide +kernel⟩, List.mem_of_getElem? (i := 866) (by decide +kernel), List.mem_of_getElem? (i := 1192) (by decide +kernel), List.mem_of_getElem? (i := 1193) (by decide +kernel)⟩
theorem lw_p66 : lw_okq (⟨"StarShellsModel", "tells", "(IIII)V"⟩, 28) := ⟨⟨by decide +kernel, by decide +kernel⟩, List.mem_of_getElem? (i := 866) (by decide +kernel), List.mem_of_getElem? (i := 1196) (by decide +kernel), List.mem_of_getElem? (i := 1197) (by decide +kernel)⟩
theorem lw_p67 : lw_okq (⟨"StarShellsModel", "mixes", "(III)V"⟩, 28) := ⟨⟨by decide +kernel, by decide +kernel⟩, List.mem_of_getElem? (i := 866) (by decide +kernel), List.mem_of_getElem? (i := 1200) (by decide +kernel), List.mem_of_getElem? (i := 1201) (by decide +kernel)⟩
theorem lw_p68 : lw_okq (⟨"StarShellsModel", "isSung", "(I)Z"⟩, 28) := ⟨⟨by decide +kernel, by decide +kernel⟩, List.mem_of_getElem? (i := 866) (by decide +kernel), List.mem_of_getElem? (i := 1235) (by decide +kernel), List.mem_of_getElem? (i := 1236) (by decide +kernel)⟩
theorem lw_p69 : lw_okq (⟨"StarShellsModel", "belowOf", "(II)I"⟩, 28) := ⟨⟨by decide +kernel, by decide +kernel⟩, List.mem_of_getElem? (i := 866) (by decide +kernel), List.mem_of_getElem? (i := 1239) (by decide +kernel), List.mem_of_getElem? (i := 1240) (by decide +kernel)⟩
theorem lw_p70 : lw_okq (⟨"StarShellsModel", "kOf", "(II)I"⟩, 28) := ⟨⟨by decide +kernel, by decide +kernel⟩, List.mem_of_getElem? (i := 866) (by decide +kernel), List.mem_of_getElem? (i := 1243) (by decide +kernel), List.mem_of_getElem? (i := 1244) (by decide +kernel)⟩
theorem lw_p71 : lw_okq (⟨"StarShellsModel", "toneOf", "(II)I"⟩, 28) := ⟨⟨by decide +kernel, by decide +kernel⟩, List.mem_of_getElem? (i := 866) (by decide +kernel), List.mem_of_getElem? (i := 1251) (by decide +kernel), List.mem_of_getElem? (i := 1252) (by decide +kernel)⟩
theorem lw_p72 : lw_okq (⟨"StarShellsModel", "fit", "(II)Z"⟩, 28) := ⟨⟨by decide +kernel, by decide +kernel⟩, List.mem_of_getElem? (i := 866) (by decide +kernel), List.mem_of_getElem? (i := 1264) (by decide +kernel), List.mem_of_getElem? (i := 1265) (by decide +kernel)⟩
theorem lw_p73 : lw_okq (⟨"StarShellsModel", "agrees", "(II)Z"⟩, 28) := ⟨⟨by decide +kernel, by decide +kernel⟩, List.mem_of_getElem? (i := 866) (by decide +kernel), List.mem_of_getElem? (i := 1268) (by decide +kernel), List.mem_of_getElem? (i := 1269) (by decide +kernel)⟩
def lw_privs_5 : List (MethodName × Nat) := [(⟨"StarShellsModel", "burns", "(III)V"⟩, 28), (⟨"StarShellsModel", "looksAt", "(III)V"⟩, 28), (⟨"StarShellsModel", "tells", "(IIII)V"⟩, 28), (⟨"StarShellsModel", "mixes", "(III)V"⟩, 28), (⟨"StarShellsModel", "isSung", "(I)Z"⟩, 28), (⟨"StarShellsModel", "belowOf", "(II)I"⟩, 28), (⟨"StarShellsModel", "kOf", "(II)I"⟩, 28), (⟨"StarShellsModel", "toneOf", "(II)I"⟩, 28), (⟨"StarShellsModel", "fit", "(II)Z"⟩, 28), (⟨"StarShellsModel", "agrees", "(II)Z"⟩, 28)]
theorem lw_r5 : ∀ q ∈ lw_privs_5, lw_okq q := List.forall_mem_cons.mpr ⟨lw_p64, List.forall_mem_cons.mpr ⟨lw_p65, List.forall_mem_cons.mpr ⟨lw_p66, List.forall_mem_cons.mpr ⟨lw_p67, List.forall_mem_cons.mpr ⟨lw_p68, List.forall_mem_cons.mpr ⟨lw_p69, List.forall_mem_cons.mpr ⟨lw_p70, List.forall_mem_cons.mpr ⟨lw_p71, List.forall_mem_cons.mpr ⟨lw_p72, List.forall_mem_cons.mpr ⟨lw_p73, fun _ h => absurd h List.not_mem_nil⟩⟩⟩⟩⟩⟩⟩⟩⟩⟩
def lw_privs : List (MethodName × Nat) := lw_privs_1 ++ (lw_privs_2 ++ (lw_privs_3 ++ (lw_privs_4 ++ (lw_privs_5))))
def lw_tbl : List Cond := k2_sels lw_privs ++ tables_1
theorem lw_privs_ok : ∀ q ∈ lw_privs, lw_okq q := by
  show ∀ q ∈ lw_privs_1 ++ (lw_privs_2 ++ (lw_privs_3 ++ (lw_privs_4 ++ (lw_privs_5)))), lw_okq q
  exact List.forall_mem_append.mpr ⟨lw_r1, List.forall_mem_append.mpr ⟨lw_r2, List.forall_mem_append.mpr ⟨lw_r3, List.forall_mem_append.mpr ⟨lw_r4, lw_r5⟩⟩⟩⟩
end
section
def RX0 : String := "StarShells$Boxes"
def TX0 : u_T := fun k => match k with
  | 0 => ("StarShells$Boxes", "lows", "[I", true)
  | 1 => ("StarShells$Boxes", "highs", "[I", true)
  | 2 => ("StarShells$Boxes", "count", "I", false)
  | 3 => ("StarShells$Boxes", "from", "J", false)
  | _ => ("StarShells$Boxes", "to", "J", false)
def tyX0 : Nat → FieldType := fun k => match k with
  | 0 => .array .int
  | 1 => .array .int
  | 2 => .int
  | 3 => .long
  | _ => .long
abbrev wsX00 : List Cond := u_ws RX0 TX0 5
theorem nmX0 : ∀ a, a < 5 → ∀ b, b < 5 → a ≠ b → (TX0 a).2.1 ≠ (TX0 b).2.1 := by decide +kernel
theorem tyX0_ok : ∀ k, k < 5 → parseFieldDescriptor (TX0 k).2.2.1 = some (tyX0 k) := by decide +kernel
abbrev cX0_init : ByteArray := prog_2_method_1_code
def yX0_init : MethodName := ⟨RX0, "<init>", "()V"⟩
abbrev cX0_find : ByteArray := prog_2_method_2_code
def yX0_find : MethodName := ⟨RX0, "find", "(LStarShells$Laws;I)V"⟩
abbrev cX0_narrowToNeed : ByteArray := prog_2_method_3_code
def yX0_narrowToNeed : MethodName := ⟨RX0, "narrowToNeed", "(LStarShells$Laws;IIJ)V"⟩
abbrev cX0_narrow : ByteArray := prog_2_method_4_code
def yX0_narrow : MethodName := ⟨RX0, "narrow", "(IIJ)V"⟩
abbrev cX0_keep : ByteArray := prog_2_method_5_code
def yX0_keep : MethodName := ⟨RX0, "keep", "(II)V"⟩
def RX1 : String := "StarShells$Events"
def TX1 : u_T := fun k => match k with
  | _ => ("StarShells$Events", "rows", "[I", true)
def tyX1 : Nat → FieldType := fun k => match k with
  | _ => .array .int
abbrev wsX10 : List Cond := u_ws RX1 TX1 1
theorem nmX1 : ∀ a, a < 1 → ∀ b, b < 1 → a ≠ b → (TX1 a).2.1 ≠ (TX1 b).2.1 := by decide +kernel
theorem tyX1_ok : ∀ k, k < 1 → parseFieldDescriptor (TX1 k).2.2.1 = some (tyX1 k) := by decide +kernel
abbrev cX1_init : ByteArray := prog_3_method_1_code
def yX1_init : MethodName := ⟨RX1, "<init>", "()V"⟩
def RX2 : String := "StarShells$Inside"
def TX2 : u_T := fun k => match k with
  | 0 => ("StarShells$Inside", "weights", "[I", true)
  | 1 => ("StarShells$Inside", "needs", "[I", true)
  | 2 => ("StarShells$Inside", "boxes", "[I", true)
  | 3 => ("StarShells$Inside", "heats", "[I", true)
  | 4 => ("StarShells$Inside", "tops", "[I", true)
  | 5 => ("StarShells$Inside", "moods", "[I", true)
  | 6 => ("StarShells$Inside", "least", "[J", true)
  | 7 => ("StarShells$Inside", "greatest", "[J", true)
  | 8 => ("StarShells$Inside", "runs", "LStarShells$Boxes;", true)
  | 9 => ("StarShells$Inside", "shells", "I", false)
  | _ => ("StarShells$Inside", "calmness", "I", false)
def tyX2 : Nat → FieldType := fun k => match k with
  | 0 => .array .int
  | 1 => .array .int
  | 2 => .array .int
  | 3 => .array .int
  | 4 => .array .int
  | 5 => .array .int
  | 6 => .array .long
  | 7 => .array .long
  | 8 => .object "StarShells$Boxes"
  | 9 => .int
  | _ => .int
abbrev wsX20 : List Cond := u_ws RX2 TX2 11
theorem nmX2 : ∀ a, a < 11 → ∀ b, b < 11 → a ≠ b → (TX2 a).2.1 ≠ (TX2 b).2.1 := by decide +kernel
theorem tyX2_ok : ∀ k, k < 11 → parseFieldDescriptor (TX2 k).2.2.1 = some (tyX2 k) := by decide +kernel
abbrev cX2_init : ByteArray := prog_4_method_1_code
def yX2_init : MethodName := ⟨RX2, "<init>", "()V"⟩
abbrev cX2_settle : ByteArray := prog_4_method_2_code
def yX2_settle : MethodName := ⟨RX2, "settle", "(LStarShells$Star;LStarShells$Laws;I)V"⟩
abbrev cX2_shine : ByteArray := prog_4_method_3_code
def yX2_shine : MethodName := ⟨RX2, "shine", "(LStarShells$Star;LStarShells$Laws;)V"⟩
abbrev cX2_made : ByteArray := prog_4_method_4_code
def yX2_made : MethodName := ⟨RX2, "made", "(LStarShells$Star;ILStarShells$Laws;Z)J"⟩
abbrev cX2_haze : ByteArray := prog_4_method_5_code
def yX2_haze : MethodName := ⟨RX2, "haze", "(ILStarShells$Laws;Z)I"⟩
abbrev cX2_spanFrom : ByteArray := prog_4_method_6_code
def yX2_spanFrom : MethodName := ⟨RX2, "spanFrom", "(I)I"⟩
abbrev cX2_spanTo : ByteArray := prog_4_method_7_code
def yX2_spanTo : MethodName := ⟨RX2, "spanTo", "(I)I"⟩
def RX3 : String := "StarShells$Laws"
def TX3 : u_T := fun k => match k with
  | 0 => ("StarShells$Laws", "weights", "[I", true)
  | 1 => ("StarShells$Laws", "chains", "[I", true)
  | 2 => ("StarShells$Laws", "counts", "[I", true)
  | 3 => ("StarShells$Laws", "points", "[I", true)
  | _ => ("StarShells$Laws", "clauses", "I", false)
def tyX3 : Nat → FieldType := fun k => match k with
  | 0 => .array .int
  | 1 => .array .int
  | 2 => .array .int
  | 3 => .array .int
  | _ => .int
abbrev wsX30 : List Cond := u_ws RX3 TX3 5
theorem nmX3 : ∀ a, a < 5 → ∀ b, b < 5 → a ≠ b → (TX3 a).2.1 ≠ (TX3 b).2.1 := by decide +kernel
theorem tyX3_ok : ∀ k, k < 5 → parseFieldDescriptor (TX3 k).2.2.1 = some (tyX3 k) := by decide +kernel
abbrev cX3_init : ByteArray := prog_5_method_1_code
def yX3_init : MethodName := ⟨RX3, "<init>", "()V"⟩
abbrev cX3_copyFrom : ByteArray := prog_5_method_2_code
def yX3_copyFrom : MethodName := ⟨RX3, "copyFrom", "(LStarShells$Laws;)V"⟩
abbrev cX3_ofChain : ByteArray := prog_5_method_3_code
def yX3_ofChain : MethodName := ⟨RX3, "ofChain", "(II)I"⟩
abbrev cX3_isTold : ByteArray := prog_5_method_4_code
def yX3_isTold : MethodName := ⟨RX3, "isTold", "(I)Z"⟩
abbrev cX3_isBalanced : ByteArray := prog_5_method_5_code
def yX3_isBalanced : MethodName := ⟨RX3, "isBalanced", "()Z"⟩
abbrev cX3_ofPoint : ByteArray := prog_5_method_6_code
def yX3_ofPoint : MethodName := ⟨RX3, "ofPoint", "(III)I"⟩
abbrev cX3_addPoint : ByteArray := prog_5_method_7_code
def yX3_addPoint : MethodName := ⟨RX3, "addPoint", "(IIII)V"⟩
abbrev cX3_span : ByteArray := prog_5_method_8_code
def yX3_span : MethodName := ⟨RX3, "span", "(IIZ)I"⟩
abbrev cX3_extreme : ByteArray := prog_5_method_9_code
def yX3_extreme : MethodName := ⟨RX3, "extreme", "(IIIZ)I"⟩
def RX4 : String := "StarShells$Reader"
def TX4 : u_T := fun k => match k with
  | 0 => ("StarShells$Reader", "tape", "LStarShells$Tape;", true)
  | 1 => ("StarShells$Reader", "told", "[Z", true)
  | 2 => ("StarShells$Reader", "draft", "LStarShells$Laws;", false)
  | 3 => ("StarShells$Reader", "token", "I", false)
  | 4 => ("StarShells$Reader", "start", "I", false)
  | 5 => ("StarShells$Reader", "stop", "I", false)
  | 6 => ("StarShells$Reader", "value", "I", false)
  | 7 => ("StarShells$Reader", "taken", "I", false)
  | 8 => ("StarShells$Reader", "hasRead", "Z", false)
  | 9 => ("StarShells$Reader", "fault", "I", false)
  | _ => ("StarShells$Reader", "place", "I", false)
def tyX4 : Nat → FieldType := fun k => match k with
  | 0 => .object "StarShells$Tape"
  | 1 => .array .boolean
  | 2 => .object "StarShells$Laws"
  | 3 => .int
  | 4 => .int
  | 5 => .int
  | 6 => .int
  | 7 => .int
  | 8 => .boolean
  | 9 => .int
  | _ => .int
abbrev wsX40 : List Cond := u_ws RX4 TX4 11
theorem nmX4 : ∀ a, a < 11 → ∀ b, b < 11 → a ≠ b → (TX4 a).2.1 ≠ (TX4 b).2.1 := by decide +kernel
theorem tyX4_ok : ∀ k, k < 11 → parseFieldDescriptor (TX4 k).2.2.1 = some (tyX4 k) := by decide +kernel
abbrev cX4_init : ByteArray := prog_6_method_1_code
def yX4_init : MethodName := ⟨RX4, "<init>", "(LStarShells$Tape;)V"⟩
abbrev cX4_read : ByteArray := prog_6_method_2_code
def yX4_read : MethodName := ⟨RX4, "read", "(LStarShells$Laws;)Z"⟩
abbrev cX4_clause : ByteArray := prog_6_method_3_code
def yX4_clause : MethodName := ⟨RX4, "clause", "()Z"⟩
abbrev cX4_hasRoom : ByteArray := prog_6_method_4_code
def yX4_hasRoom : MethodName := ⟨RX4, "hasRoom", "()Z"⟩
abbrev cX4_kindClause : ByteArray := prog_6_method_5_code
def yX4_kindClause : MethodName := ⟨RX4, "kindClause", "()Z"⟩
abbrev cX4_chainClause : ByteArray := prog_6_method_6_code
def yX4_chainClause : MethodName := ⟨RX4, "chainClause", "()Z"⟩
abbrev cX4_rateNumber : ByteArray := prog_6_method_7_code
def yX4_rateNumber : MethodName := ⟨RX4, "rateNumber", "()Z"⟩
abbrev cX4_tableClause : ByteArray := prog_6_method_8_code
def yX4_tableClause : MethodName := ⟨RX4, "tableClause", "(I)Z"⟩
abbrev cX4_blame : ByteArray := prog_6_method_9_code
def yX4_blame : MethodName := ⟨RX4, "blame", "(I)Z"⟩
abbrev cX4_once : ByteArray := prog_6_method_10_code
def yX4_once : MethodName := ⟨RX4, "once", "(I)Z"⟩
abbrev cX4_atKind : ByteArray := prog_6_method_11_code
def yX4_atKind : MethodName := ⟨RX4, "atKind", "()Z"⟩
abbrev cX4_takeKind : ByteArray := prog_6_method_12_code
def yX4_takeKind : MethodName := ⟨RX4, "takeKind", "(I)Z"⟩
abbrev cX4_atNumber : ByteArray := prog_6_method_13_code
def yX4_atNumber : MethodName := ⟨RX4, "atNumber", "(II)Z"⟩
abbrev cX4_takeNumber : ByteArray := prog_6_method_14_code
def yX4_takeNumber : MethodName := ⟨RX4, "takeNumber", "(II)Z"⟩
abbrev cX4_takeWord : ByteArray := prog_6_method_15_code
def yX4_takeWord : MethodName := ⟨RX4, "takeWord", "(Ljava/lang/String;)Z"⟩
abbrev cX4_takeSign : ByteArray := prog_6_method_16_code
def yX4_takeSign : MethodName := ⟨RX4, "takeSign", "(I)Z"⟩
abbrev cX4_isWord : ByteArray := prog_6_method_17_code
def yX4_isWord : MethodName := ⟨RX4, "isWord", "(Ljava/lang/String;)Z"⟩
abbrev cX4_next : ByteArray := prog_6_method_18_code
def yX4_next : MethodName := ⟨RX4, "next", "()V"⟩
abbrev cX4_isBlank : ByteArray := prog_6_method_19_code
def yX4_isBlank : MethodName := ⟨RX4, "isBlank", "(I)Z"⟩
abbrev cX4_isLetter : ByteArray := prog_6_method_20_code
def yX4_isLetter : MethodName := ⟨RX4, "isLetter", "(I)Z"⟩
abbrev cX4_isDigit : ByteArray := prog_6_method_21_code
def yX4_isDigit : MethodName := ⟨RX4, "isDigit", "(I)Z"⟩
def RX5 : String := "StarShells$Sheet"
def TX5 : u_T := fun k => match k with
  | 0 => ("StarShells$Sheet", "places", "[J", true)
  | 1 => ("StarShells$Sheet", "star", "I", false)
  | 2 => ("StarShells$Sheet", "others", "I", false)
  | _ => ("StarShells$Sheet", "other", "I", false)
def tyX5 : Nat → FieldType := fun k => match k with
  | 0 => .array .long
  | 1 => .int
  | 2 => .int
  | _ => .int
abbrev wsX50 : List Cond := u_ws RX5 TX5 4
theorem nmX5 : ∀ a, a < 4 → ∀ b, b < 4 → a ≠ b → (TX5 a).2.1 ≠ (TX5 b).2.1 := by decide +kernel
theorem tyX5_ok : ∀ k, k < 4 → parseFieldDescriptor (TX5 k).2.2.1 = some (tyX5 k) := by decide +kernel
abbrev cX5_init : ByteArray := prog_7_method_1_code
def yX5_init : MethodName := ⟨RX5, "<init>", "()V"⟩
abbrev cX5_take : ByteArray := prog_7_method_2_code
def yX5_take : MethodName := ⟨RX5, "take", "(I[J)V"⟩
abbrev cX5_compare : ByteArray := prog_7_method_3_code
def yX5_compare : MethodName := ⟨RX5, "compare", "([J)V"⟩
def RX6 : String := "StarShells$Sights"
def TX6 : u_T := fun k => match k with
  | 0 => ("StarShells$Sights", "stars", "[I", true)
  | 1 => ("StarShells$Sights", "tones", "[I", true)
  | 2 => ("StarShells$Sights", "from", "[I", true)
  | _ => ("StarShells$Sights", "to", "[I", true)
def tyX6 : Nat → FieldType := fun k => match k with
  | 0 => .array .int
  | 1 => .array .int
  | 2 => .array .int
  | _ => .array .int
abbrev wsX60 : List Cond := u_ws RX6 TX6 4
theorem nmX6 : ∀ a, a < 4 → ∀ b, b < 4 → a ≠ b → (TX6 a).2.1 ≠ (TX6 b).2.1 := by decide +kernel
theorem tyX6_ok : ∀ k, k < 4 → parseFieldDescriptor (TX6 k).2.2.1 = some (tyX6 k) := by decide +kernel
abbrev cX6_init : ByteArray := prog_8_method_1_code
def yX6_init : MethodName := ⟨RX6, "<init>", "()V"⟩
def RX7 : String := "StarShells$Star"
def TX7 : u_T := fun k => match k with
  | 0 => ("StarShells$Star", "parts", "[I", true)
  | 1 => ("StarShells$Star", "book", "[J", true)
  | 2 => ("StarShells$Star", "shone", "[Z", true)
  | 3 => ("StarShells$Star", "shells", "I", false)
  | 4 => ("StarShells$Star", "unit", "I", false)
  | _ => ("StarShells$Star", "limit", "I", false)
def tyX7 : Nat → FieldType := fun k => match k with
  | 0 => .array .int
  | 1 => .array .long
  | 2 => .array .boolean
  | 3 => .int
  | 4 => .int
  | _ => .int
abbrev wsX70 : List Cond := u_ws RX7 TX7 6
theorem nmX7 : ∀ a, a < 6 → ∀ b, b < 6 → a ≠ b → (TX7 a).2.1 ≠ (TX7 b).2.1 := by decide +kernel
theorem tyX7_ok : ∀ k, k < 6 → parseFieldDescriptor (TX7 k).2.2.1 = some (tyX7 k) := by decide +kernel
abbrev cX7_init : ByteArray := prog_9_method_1_code
def yX7_init : MethodName := ⟨RX7, "<init>", "()V"⟩
abbrev cX7_copyFrom : ByteArray := prog_9_method_2_code
def yX7_copyFrom : MethodName := ⟨RX7, "copyFrom", "(LStarShells$Star;)V"⟩
abbrev cX7_partsOf : ByteArray := prog_9_method_3_code
def yX7_partsOf : MethodName := ⟨RX7, "partsOf", "(II)I"⟩
abbrev cX7_setParts : ByteArray := prog_9_method_4_code
def yX7_setParts : MethodName := ⟨RX7, "setParts", "(III)V"⟩
abbrev cX7_weightOf : ByteArray := prog_9_method_5_code
def yX7_weightOf : MethodName := ⟨RX7, "weightOf", "(ILStarShells$Laws;)I"⟩
abbrev cX7_timesOf : ByteArray := prog_9_method_6_code
def yX7_timesOf : MethodName := ⟨RX7, "timesOf", "(IILStarShells$Laws;I)I"⟩
abbrev cX7_burn : ByteArray := prog_9_method_7_code
def yX7_burn : MethodName := ⟨RX7, "burn", "(IILStarShells$Laws;I)J"⟩
abbrev cX7_mix : ByteArray := prog_9_method_8_code
def yX7_mix : MethodName := ⟨RX7, "mix", "(II)V"⟩
abbrev cX7_giveRim : ByteArray := prog_9_method_9_code
def yX7_giveRim : MethodName := ⟨RX7, "giveRim", "(LStarShells$Star;I)Z"⟩
def RX8 : String := "StarShells$Tape"
def TX8 : u_T := fun k => match k with
  | 0 => ("StarShells$Tape", "bytes", "[I", true)
  | _ => ("StarShells$Tape", "length", "I", false)
def tyX8 : Nat → FieldType := fun k => match k with
  | 0 => .array .int
  | _ => .int
abbrev wsX80 : List Cond := u_ws RX8 TX8 2
theorem nmX8 : ∀ a, a < 2 → ∀ b, b < 2 → a ≠ b → (TX8 a).2.1 ≠ (TX8 b).2.1 := by decide +kernel
theorem tyX8_ok : ∀ k, k < 2 → parseFieldDescriptor (TX8 k).2.2.1 = some (tyX8 k) := by decide +kernel
abbrev cX8_init : ByteArray := prog_10_method_1_code
def yX8_init : MethodName := ⟨RX8, "<init>", "()V"⟩
abbrev cX8_append : ByteArray := prog_10_method_2_code
def yX8_append : MethodName := ⟨RX8, "append", "(I)V"⟩
def RX9 : String := "StarShells$Tones"
def TX9 : u_T := fun k => match k with
  | 0 => ("StarShells$Tones", "springs", "[I", true)
  | _ => ("StarShells$Tones", "count", "I", false)
def tyX9 : Nat → FieldType := fun k => match k with
  | 0 => .array .int
  | _ => .int
abbrev wsX90 : List Cond := u_ws RX9 TX9 2
theorem nmX9 : ∀ a, a < 2 → ∀ b, b < 2 → a ≠ b → (TX9 a).2.1 ≠ (TX9 b).2.1 := by decide +kernel
theorem tyX9_ok : ∀ k, k < 2 → parseFieldDescriptor (TX9 k).2.2.1 = some (tyX9 k) := by decide +kernel
abbrev cX9_init : ByteArray := prog_11_method_1_code
def yX9_init : MethodName := ⟨RX9, "<init>", "()V"⟩
abbrev cX9_listen : ByteArray := prog_11_method_2_code
def yX9_listen : MethodName := ⟨RX9, "listen", "(LStarShells$Inside;)Z"⟩
abbrev cX9_countBelow : ByteArray := prog_11_method_3_code
def yX9_countBelow : MethodName := ⟨RX9, "countBelow", "(I)I"⟩
abbrev cX9_boxOf : ByteArray := prog_11_method_4_code
def yX9_boxOf : MethodName := ⟨RX9, "boxOf", "(I)I"⟩
def RX10 : String := "StarShells$World"
def TX10 : u_T := fun k => match k with
  | 0 => ("StarShells$World", "stars", "[LStarShells$Star;", true)
  | 1 => ("StarShells$World", "time", "I", false)
  | 2 => ("StarShells$World", "look", "I", false)
  | 3 => ("StarShells$World", "steps", "I", false)
  | 4 => ("StarShells$World", "events", "I", false)
  | _ => ("StarShells$World", "sights", "I", false)
def tyX10 : Nat → FieldType := fun k => match k with
  | 0 => .array (.object "StarShells$Star")
  | 1 => .int
  | 2 => .int
  | 3 => .int
  | 4 => .int
  | _ => .int
abbrev wsX100 : List Cond := u_ws RX10 TX10 6
theorem nmX10 : ∀ a, a < 6 → ∀ b, b < 6 → a ≠ b → (TX10 a).2.1 ≠ (TX10 b).2.1 := by decide +kernel
theorem tyX10_ok : ∀ k, k < 6 → parseFieldDescriptor (TX10 k).2.2.1 = some (tyX10 k) := by decide +kernel
abbrev cX10_init : ByteArray := prog_12_method_1_code
def yX10_init : MethodName := ⟨RX10, "<init>", "()V"⟩
abbrev cX10_copyFrom : ByteArray := prog_12_method_2_code
def yX10_copyFrom : MethodName := ⟨RX10, "copyFrom", "(LStarShells$World;)V"⟩
def RX11 : String := "StarShells"
def TX11 : u_T := fun k => match k with
  | 0 => ("StarShells", "tape", "LStarShells$Tape;", true)
  | 1 => ("StarShells", "reader", "LStarShells$Reader;", true)
  | 2 => ("StarShells", "laws", "[LStarShells$Laws;", true)
  | 3 => ("StarShells", "now", "LStarShells$World;", true)
  | 4 => ("StarShells", "kept", "LStarShells$World;", true)
  | 5 => ("StarShells", "events", "LStarShells$Events;", true)
  | 6 => ("StarShells", "sights", "LStarShells$Sights;", true)
  | 7 => ("StarShells", "paper", "LStarShells$Sheet;", true)
  | 8 => ("StarShells", "inside", "LStarShells$Inside;", true)
  | 9 => ("StarShells", "tones", "LStarShells$Tones;", true)
  | 10 => ("StarShells", "ahead", "[I", true)
  | _ => ("StarShells", "glow", "[J", true)
def tyX11 : Nat → FieldType := fun k => match k with
  | 0 => .object "StarShells$Tape"
  | 1 => .object "StarShells$Reader"
  | 2 => .array (.object "StarShells$Laws")
  | 3 => .object "StarShells$World"
  | 4 => .object "StarShells$World"
  | 5 => .object "StarShells$Events"
  | 6 => .object "StarShells$Sights"
  | 7 => .object "StarShells$Sheet"
  | 8 => .object "StarShells$Inside"
  | 9 => .object "StarShells$Tones"
  | 10 => .array .int
  | _ => .array .long
abbrev wsX110 : List Cond := u_ws RX11 TX11 12
theorem nmX11 : ∀ a, a < 12 → ∀ b, b < 12 → a ≠ b → (TX11 a).2.1 ≠ (TX11 b).2.1 := by decide +kernel
theorem tyX11_ok : ∀ k, k < 12 → parseFieldDescriptor (TX11 k).2.2.1 = some (tyX11 k) := by decide +kernel
abbrev cX11_init : ByteArray := prog_1_method_1_code
def yX11_init : MethodName := ⟨RX11, "<init>", "()V"⟩
abbrev cX11_feed : ByteArray := prog_1_method_2_code
def yX11_feed : MethodName := ⟨RX11, "feed", "(IIIII)I"⟩
abbrev cX11_end : ByteArray := prog_1_method_3_code
def yX11_end : MethodName := ⟨RX11, "end", "(I)I"⟩
abbrev cX11_text : ByteArray := prog_1_method_4_code
def yX11_text : MethodName := ⟨RX11, "text", "()I"⟩
abbrev cX11_fault : ByteArray := prog_1_method_5_code
def yX11_fault : MethodName := ⟨RX11, "fault", "(I)I"⟩
abbrev cX11_look : ByteArray := prog_1_method_6_code
def yX11_look : MethodName := ⟨RX11, "look", "(I)Z"⟩
abbrev cX11_weight : ByteArray := prog_1_method_7_code
def yX11_weight : MethodName := ⟨RX11, "weight", "(I)I"⟩
abbrev cX11_chain : ByteArray := prog_1_method_8_code
def yX11_chain : MethodName := ⟨RX11, "chain", "(II)I"⟩
abbrev cX11_law : ByteArray := prog_1_method_9_code
def yX11_law : MethodName := ⟨RX11, "law", "(IIZ)I"⟩
abbrev cX11_shell : ByteArray := prog_1_method_10_code
def yX11_shell : MethodName := ⟨RX11, "shell", "(I)I"⟩
abbrev cX11_fill : ByteArray := prog_1_method_11_code
def yX11_fill : MethodName := ⟨RX11, "fill", "(IIII)Z"⟩
abbrev cX11_parts : ByteArray := prog_1_method_12_code
def yX11_parts : MethodName := ⟨RX11, "parts", "(III)I"⟩
abbrev cX11_rules : ByteArray := prog_1_method_13_code
def yX11_rules : MethodName := ⟨RX11, "rules", "(III)Z"⟩
abbrev cX11_of : ByteArray := prog_1_method_14_code
def yX11_of : MethodName := ⟨RX11, "of", "(III)I"⟩
abbrev cX11_box : ByteArray := prog_1_method_15_code
def yX11_box : MethodName := ⟨RX11, "box", "(IIIZ)I"⟩
abbrev cX11_through : ByteArray := prog_1_method_16_code
def yX11_through : MethodName := ⟨RX11, "through", "(IIZ)J"⟩
abbrev cX11_settled : ByteArray := prog_1_method_17_code
def yX11_settled : MethodName := ⟨RX11, "settled", "(I)I"⟩
abbrev cX11_steps : ByteArray := prog_1_method_18_code
def yX11_steps : MethodName := ⟨RX11, "steps", "(II)I"⟩
abbrev cX11_event : ByteArray := prog_1_method_19_code
def yX11_event : MethodName := ⟨RX11, "event", "(II)I"⟩
abbrev cX11_hand : ByteArray := prog_1_method_20_code
def yX11_hand : MethodName := ⟨RX11, "hand", "(II)Z"⟩
abbrev cX11_light : ByteArray := prog_1_method_21_code
def yX11_light : MethodName := ⟨RX11, "light", "(III)J"⟩
abbrev cX11_sheet : ByteArray := prog_1_method_22_code
def yX11_sheet : MethodName := ⟨RX11, "sheet", "(I)Z"⟩
abbrev cX11_alter : ByteArray := prog_1_method_23_code
def yX11_alter : MethodName := ⟨RX11, "alter", "(IIJ)Z"⟩
abbrev cX11_check : ByteArray := prog_1_method_24_code
def yX11_check : MethodName := ⟨RX11, "check", "(I)I"⟩
abbrev cX11_below : ByteArray := prog_1_method_25_code
def yX11_below : MethodName := ⟨RX11, "below", "(II)I"⟩
abbrev cX11_tone : ByteArray := prog_1_method_26_code
def yX11_tone : MethodName := ⟨RX11, "tone", "(II)I"⟩
abbrev cX11_seen : ByteArray := prog_1_method_27_code
def yX11_seen : MethodName := ⟨RX11, "seen", "(IIII)I"⟩
abbrev cX11_fits : ByteArray := prog_1_method_28_code
def yX11_fits : MethodName := ⟨RX11, "fits", "(II)I"⟩
abbrev cX11_image : ByteArray := prog_1_method_29_code
def yX11_image : MethodName := ⟨RX11, "image", "()I"⟩
abbrev cX11_back : ByteArray := prog_1_method_30_code
def yX11_back : MethodName := ⟨RX11, "back", "()I"⟩
abbrev cX11_about : ByteArray := prog_1_method_31_code
def yX11_about : MethodName := ⟨RX11, "about", "(I)I"⟩
abbrev cX11_isStar : ByteArray := prog_1_method_32_code
def yX11_isStar : MethodName := ⟨RX11, "isStar", "(I)Z"⟩
abbrev cX11_isKind : ByteArray := prog_1_method_33_code
def yX11_isKind : MethodName := ⟨RX11, "isKind", "(I)Z"⟩
abbrev cX11_isChain : ByteArray := prog_1_method_34_code
def yX11_isChain : MethodName := ⟨RX11, "isChain", "(I)Z"⟩
abbrev cX11_isShell : ByteArray := prog_1_method_35_code
def yX11_isShell : MethodName := ⟨RX11, "isShell", "(II)Z"⟩
abbrev cX11_cut : ByteArray := prog_1_method_36_code
def yX11_cut : MethodName := ⟨RX11, "cut", "(II)I"⟩
abbrev cX11_lawsNow : ByteArray := prog_1_method_37_code
def yX11_lawsNow : MethodName := ⟨RX11, "lawsNow", "()LStarShells$Laws;"⟩
abbrev cX11_enter : ByteArray := prog_1_method_38_code
def yX11_enter : MethodName := ⟨RX11, "enter", "(I)V"⟩
abbrev cX11_hear : ByteArray := prog_1_method_39_code
def yX11_hear : MethodName := ⟨RX11, "hear", "(I)Z"⟩
abbrev cX11_sawLight : ByteArray := prog_1_method_40_code
def yX11_sawLight : MethodName := ⟨RX11, "sawLight", "(I)Z"⟩
abbrev cX11_fitsWith : ByteArray := prog_1_method_41_code
def yX11_fitsWith : MethodName := ⟨RX11, "fitsWith", "(IIZ)Z"⟩
abbrev cX11_agrees : ByteArray := prog_1_method_42_code
def yX11_agrees : MethodName := ⟨RX11, "agrees", "(IZ)Z"⟩
abbrev cX11_makeStep : ByteArray := prog_1_method_43_code
def yX11_makeStep : MethodName := ⟨RX11, "makeStep", "(I)Z"⟩
abbrev cX11_burnShell : ByteArray := prog_1_method_44_code
def yX11_burnShell : MethodName := ⟨RX11, "burnShell", "(LStarShells$Star;I)V"⟩
abbrev cX11_tellEvents : ByteArray := prog_1_method_45_code
def yX11_tellEvents : MethodName := ⟨RX11, "tellEvents", "(II)V"⟩
abbrev cX11_keepEvent : ByteArray := prog_1_method_46_code
def yX11_keepEvent : MethodName := ⟨RX11, "keepEvent", "(IIII)V"⟩
abbrev cX11_mixChurned : ByteArray := prog_1_method_47_code
def yX11_mixChurned : MethodName := ⟨RX11, "mixChurned", "(LStarShells$Star;)V"⟩
def RX12 : String := "StarShellsModel"
def TX12 : u_T := fun k => match k with
  | 0 => ("StarShellsModel", "a", "[I", true)
  | 1 => ("StarShellsModel", "image", "[I", true)
  | 2 => ("StarShellsModel", "book", "[J", true)
  | 3 => ("StarShellsModel", "imageBook", "[J", true)
  | 4 => ("StarShellsModel", "sheet", "[J", true)
  | 5 => ("StarShellsModel", "sheetStar", "I", false)
  | 6 => ("StarShellsModel", "tape", "[B", true)
  | 7 => ("StarShellsModel", "taped", "I", false)
  | 8 => ("StarShellsModel", "fault", "I", false)
  | 9 => ("StarShellsModel", "faultAt", "I", false)
  | 10 => ("StarShellsModel", "length", "I", false)
  | 11 => ("StarShellsModel", "at", "I", false)
  | 12 => ("StarShellsModel", "token", "I", false)
  | 13 => ("StarShellsModel", "sort", "I", false)
  | 14 => ("StarShellsModel", "told", "I", false)
  | 15 => ("StarShellsModel", "wrong", "I", false)
  | 16 => ("StarShellsModel", "wrongAt", "I", false)
  | 17 => ("StarShellsModel", "isTold", "[Z", true)
  | 18 => ("StarShellsModel", "fresh", "[I", true)
  | 19 => ("StarShellsModel", "low", "[I", true)
  | 20 => ("StarShellsModel", "high", "[I", true)
  | 21 => ("StarShellsModel", "boxes", "[I", true)
  | 22 => ("StarShellsModel", "boxLow", "[I", true)
  | 23 => ("StarShellsModel", "boxHigh", "[I", true)
  | 24 => ("StarShellsModel", "need", "[I", true)
  | 25 => ("StarShellsModel", "churned", "[Z", true)
  | 26 => ("StarShellsModel", "began", "[I", true)
  | _ => ("StarShellsModel", "makes", "[Z", true)
def tyX12 : Nat → FieldType := fun k => match k with
  | 0 => .array .int
  | 1 => .array .int
  | 2 => .array .long
  | 3 => .array .long
  | 4 => .array .long
  | 5 => .int
  | 6 => .array .byte
  | 7 => .int
  | 8 => .int
  | 9 => .int
  | 10 => .int
  | 11 => .int
  | 12 => .int
  | 13 => .int
  | 14 => .int
  | 15 => .int
  | 16 => .int
  | 17 => .array .boolean
  | 18 => .array .int
  | 19 => .array .int
  | 20 => .array .int
  | 21 => .array .int
  | 22 => .array .int
  | 23 => .array .int
  | 24 => .array .int
  | 25 => .array .boolean
  | 26 => .array .int
  | _ => .array .boolean
abbrev wsX120 : List Cond := u_ws RX12 TX12 28
theorem nmX12 : ∀ a, a < 28 → ∀ b, b < 28 → a ≠ b → (TX12 a).2.1 ≠ (TX12 b).2.1 := by decide +kernel
theorem tyX12_ok : ∀ k, k < 28 → parseFieldDescriptor (TX12 k).2.2.1 = some (tyX12 k) := by decide +kernel
abbrev cX12_init : ByteArray := prog_14_method_1_code
def yX12_init : MethodName := ⟨RX12, "<init>", "()V"⟩
abbrev cX12_copies : ByteArray := prog_14_method_2_code
def yX12_copies : MethodName := ⟨RX12, "copies", "(Z)V"⟩
abbrev cX12_in : ByteArray := prog_14_method_3_code
def yX12_in : MethodName := ⟨RX12, "in", "(JJJ)Z"⟩
abbrev cX12_isStar : ByteArray := prog_14_method_4_code
def yX12_isStar : MethodName := ⟨RX12, "isStar", "(I)Z"⟩
abbrev cX12_isShell : ByteArray := prog_14_method_5_code
def yX12_isShell : MethodName := ⟨RX12, "isShell", "(II)Z"⟩
abbrev cX12_put : ByteArray := prog_14_method_6_code
def yX12_put : MethodName := ⟨RX12, "put", "(I)V"⟩
abbrev cX12_feed : ByteArray := prog_14_method_7_code
def yX12_feed : MethodName := ⟨RX12, "feed", "(IIIII)I"⟩
abbrev cX12_end : ByteArray := prog_14_method_8_code
def yX12_end : MethodName := ⟨RX12, "end", "(I)I"⟩
abbrev cX12_isLetter : ByteArray := prog_14_method_9_code
def yX12_isLetter : MethodName := ⟨RX12, "isLetter", "(I)Z"⟩
abbrev cX12_wordOf : ByteArray := prog_14_method_10_code
def yX12_wordOf : MethodName := ⟨RX12, "wordOf", "(J)I"⟩
abbrev cX12_next : ByteArray := prog_14_method_11_code
def yX12_next : MethodName := ⟨RX12, "next", "()V"⟩
abbrev cX12_errs : ByteArray := prog_14_method_12_code
def yX12_errs : MethodName := ⟨RX12, "errs", "(I)V"⟩
abbrev cX12_number : ByteArray := prog_14_method_13_code
def yX12_number : MethodName := ⟨RX12, "number", "(II)I"⟩
abbrev cX12_takes : ByteArray := prog_14_method_14_code
def yX12_takes : MethodName := ⟨RX12, "takes", "(II)V"⟩
abbrev cX12_kindOf : ByteArray := prog_14_method_15_code
def yX12_kindOf : MethodName := ⟨RX12, "kindOf", "()I"⟩
abbrev cX12_once : ByteArray := prog_14_method_16_code
def yX12_once : MethodName := ⟨RX12, "once", "(I)V"⟩
abbrev cX12_kindClause : ByteArray := prog_14_method_17_code
def yX12_kindClause : MethodName := ⟨RX12, "kindClause", "()V"⟩
abbrev cX12_chainClause : ByteArray := prog_14_method_18_code
def yX12_chainClause : MethodName := ⟨RX12, "chainClause", "()V"⟩
abbrev cX12_tableClause : ByteArray := prog_14_method_19_code
def yX12_tableClause : MethodName := ⟨RX12, "tableClause", "(I)V"⟩
abbrev cX12_clause : ByteArray := prog_14_method_20_code
def yX12_clause : MethodName := ⟨RX12, "clause", "()V"⟩
abbrev cX12_isEven : ByteArray := prog_14_method_21_code
def yX12_isEven : MethodName := ⟨RX12, "isEven", "()Z"⟩
abbrev cX12_text : ByteArray := prog_14_method_22_code
def yX12_text : MethodName := ⟨RX12, "text", "()I"⟩
abbrev cX12_fault : ByteArray := prog_14_method_23_code
def yX12_fault : MethodName := ⟨RX12, "fault", "(I)I"⟩
abbrev cX12_look : ByteArray := prog_14_method_24_code
def yX12_look : MethodName := ⟨RX12, "look", "(I)Z"⟩
abbrev cX12_says : ByteArray := prog_14_method_25_code
def yX12_says : MethodName := ⟨RX12, "says", "(I)I"⟩
abbrev cX12_weightOf : ByteArray := prog_14_method_26_code
def yX12_weightOf : MethodName := ⟨RX12, "weightOf", "(I)I"⟩
abbrev cX12_weight : ByteArray := prog_14_method_27_code
def yX12_weight : MethodName := ⟨RX12, "weight", "(I)I"⟩
abbrev cX12_isChain : ByteArray := prog_14_method_28_code
def yX12_isChain : MethodName := ⟨RX12, "isChain", "(I)Z"⟩
abbrev cX12_chainOf : ByteArray := prog_14_method_29_code
def yX12_chainOf : MethodName := ⟨RX12, "chainOf", "(II)I"⟩
abbrev cX12_chain : ByteArray := prog_14_method_30_code
def yX12_chain : MethodName := ⟨RX12, "chain", "(II)I"⟩
abbrev cX12_down : ByteArray := prog_14_method_31_code
def yX12_down : MethodName := ⟨RX12, "down", "(JJ)J"⟩
abbrev cX12_spanOf : ByteArray := prog_14_method_32_code
def yX12_spanOf : MethodName := ⟨RX12, "spanOf", "(IIZ)I"⟩
abbrev cX12_law : ByteArray := prog_14_method_33_code
def yX12_law : MethodName := ⟨RX12, "law", "(IIZ)I"⟩
abbrev cX12_partsAt : ByteArray := prog_14_method_34_code
def yX12_partsAt : MethodName := ⟨RX12, "partsAt", "(III)I"⟩
abbrev cX12_sets : ByteArray := prog_14_method_35_code
def yX12_sets : MethodName := ⟨RX12, "sets", "(IIII)V"⟩
abbrev cX12_shell : ByteArray := prog_14_method_36_code
def yX12_shell : MethodName := ⟨RX12, "shell", "(I)I"⟩
abbrev cX12_fill : ByteArray := prog_14_method_37_code
def yX12_fill : MethodName := ⟨RX12, "fill", "(IIII)Z"⟩
abbrev cX12_parts : ByteArray := prog_14_method_38_code
def yX12_parts : MethodName := ⟨RX12, "parts", "(III)I"⟩
abbrev cX12_rules : ByteArray := prog_14_method_39_code
def yX12_rules : MethodName := ⟨RX12, "rules", "(III)Z"⟩
abbrev cX12_weighs : ByteArray := prog_14_method_40_code
def yX12_weighs : MethodName := ⟨RX12, "weighs", "(II)I"⟩
abbrev cX12_needOf : ByteArray := prog_14_method_41_code
def yX12_needOf : MethodName := ⟨RX12, "needOf", "(III)I"⟩
abbrev cX12_spans : ByteArray := prog_14_method_42_code
def yX12_spans : MethodName := ⟨RX12, "spans", "()V"⟩
abbrev cX12_canBe : ByteArray := prog_14_method_43_code
def yX12_canBe : MethodName := ⟨RX12, "canBe", "(II)Z"⟩
abbrev cX12_settles : ByteArray := prog_14_method_44_code
def yX12_settles : MethodName := ⟨RX12, "settles", "(II)Z"⟩
abbrev cX12_least : ByteArray := prog_14_method_45_code
def yX12_least : MethodName := ⟨RX12, "least", "([III)I"⟩
abbrev cX12_most : ByteArray := prog_14_method_46_code
def yX12_most : MethodName := ⟨RX12, "most", "([III)I"⟩
abbrev cX12_throughOf : ByteArray := prog_14_method_47_code
def yX12_throughOf : MethodName := ⟨RX12, "throughOf", "(IIZ)J"⟩
abbrev cX12_churns : ByteArray := prog_14_method_48_code
def yX12_churns : MethodName := ⟨RX12, "churns", "(II)I"⟩
abbrev cX12_of : ByteArray := prog_14_method_49_code
def yX12_of : MethodName := ⟨RX12, "of", "(III)I"⟩
abbrev cX12_box : ByteArray := prog_14_method_50_code
def yX12_box : MethodName := ⟨RX12, "box", "(IIIZ)I"⟩
abbrev cX12_through : ByteArray := prog_14_method_51_code
def yX12_through : MethodName := ⟨RX12, "through", "(IIZ)J"⟩
abbrev cX12_settled : ByteArray := prog_14_method_52_code
def yX12_settled : MethodName := ⟨RX12, "settled", "(I)I"⟩
abbrev cX12_tells : ByteArray := prog_14_method_53_code
def yX12_tells : MethodName := ⟨RX12, "tells", "(IIII)V"⟩
abbrev cX12_burns : ByteArray := prog_14_method_54_code
def yX12_burns : MethodName := ⟨RX12, "burns", "(III)V"⟩
abbrev cX12_looksAt : ByteArray := prog_14_method_55_code
def yX12_looksAt : MethodName := ⟨RX12, "looksAt", "(III)V"⟩
abbrev cX12_mixes : ByteArray := prog_14_method_56_code
def yX12_mixes : MethodName := ⟨RX12, "mixes", "(III)V"⟩
abbrev cX12_goes : ByteArray := prog_14_method_57_code
def yX12_goes : MethodName := ⟨RX12, "goes", "(I)V"⟩
abbrev cX12_steps : ByteArray := prog_14_method_58_code
def yX12_steps : MethodName := ⟨RX12, "steps", "(II)I"⟩
abbrev cX12_event : ByteArray := prog_14_method_59_code
def yX12_event : MethodName := ⟨RX12, "event", "(II)I"⟩
abbrev cX12_hand : ByteArray := prog_14_method_60_code
def yX12_hand : MethodName := ⟨RX12, "hand", "(II)Z"⟩
abbrev cX12_light : ByteArray := prog_14_method_61_code
def yX12_light : MethodName := ⟨RX12, "light", "(III)J"⟩
abbrev cX12_sheet : ByteArray := prog_14_method_62_code
def yX12_sheet : MethodName := ⟨RX12, "sheet", "(I)Z"⟩
abbrev cX12_alter : ByteArray := prog_14_method_63_code
def yX12_alter : MethodName := ⟨RX12, "alter", "(IIJ)Z"⟩
abbrev cX12_check : ByteArray := prog_14_method_64_code
def yX12_check : MethodName := ⟨RX12, "check", "(I)I"⟩
abbrev cX12_isSung : ByteArray := prog_14_method_65_code
def yX12_isSung : MethodName := ⟨RX12, "isSung", "(I)Z"⟩
abbrev cX12_kOf : ByteArray := prog_14_method_66_code
def yX12_kOf : MethodName := ⟨RX12, "kOf", "(II)I"⟩
abbrev cX12_belowOf : ByteArray := prog_14_method_67_code
def yX12_belowOf : MethodName := ⟨RX12, "belowOf", "(II)I"⟩
abbrev cX12_below : ByteArray := prog_14_method_68_code
def yX12_below : MethodName := ⟨RX12, "below", "(II)I"⟩
abbrev cX12_toneOf : ByteArray := prog_14_method_69_code
def yX12_toneOf : MethodName := ⟨RX12, "toneOf", "(II)I"⟩
abbrev cX12_tone : ByteArray := prog_14_method_70_code
def yX12_tone : MethodName := ⟨RX12, "tone", "(II)I"⟩
abbrev cX12_seen : ByteArray := prog_14_method_71_code
def yX12_seen : MethodName := ⟨RX12, "seen", "(IIII)I"⟩
abbrev cX12_agrees : ByteArray := prog_14_method_72_code
def yX12_agrees : MethodName := ⟨RX12, "agrees", "(II)Z"⟩
abbrev cX12_fit : ByteArray := prog_14_method_73_code
def yX12_fit : MethodName := ⟨RX12, "fit", "(II)Z"⟩
abbrev cX12_fits : ByteArray := prog_14_method_74_code
def yX12_fits : MethodName := ⟨RX12, "fits", "(II)I"⟩
abbrev cX12_image : ByteArray := prog_14_method_75_code
def yX12_image : MethodName := ⟨RX12, "image", "()I"⟩
abbrev cX12_back : ByteArray := prog_14_method_76_code
def yX12_back : MethodName := ⟨RX12, "back", "()I"⟩
abbrev cX12_about : ByteArray := prog_14_method_77_code
def yX12_about : MethodName := ⟨RX12, "about", "(I)I"⟩
def RJ9 : String := "java/lang/Math"
def TJ9 : u_T := fun k => match k with
  | _ => ("", "", "", false)
def tyJ9 : Nat → FieldType := fun k => match k with
  | _ => .int
abbrev wsJ90 : List Cond := u_ws RJ9 TJ9 0
theorem nmJ9 : ∀ a, a < 0 → ∀ b, b < 0 → a ≠ b → (TJ9 a).2.1 ≠ (TJ9 b).2.1 := by decide +kernel
theorem tyJ9_ok : ∀ k, k < 0 → parseFieldDescriptor (TJ9 k).2.2.1 = some (tyJ9 k) := by decide +kernel
abbrev cJ9_floorDiv_f86c9 : ByteArray := prog_15_method_49_code
def yJ9_floorDiv_f86c9 : MethodName := ⟨RJ9, "floorDiv", "(JJ)J"⟩
abbrev cJ9_max_7cf53 : ByteArray := prog_15_method_65_code
def yJ9_max_7cf53 : MethodName := ⟨RJ9, "max", "(II)I"⟩
abbrev cJ9_max_f86c9 : ByteArray := prog_15_method_66_code
def yJ9_max_f86c9 : MethodName := ⟨RJ9, "max", "(JJ)J"⟩
abbrev cJ9_min_7cf53 : ByteArray := prog_15_method_69_code
def yJ9_min_7cf53 : MethodName := ⟨RJ9, "min", "(II)I"⟩
abbrev cJ9_min_f86c9 : ByteArray := prog_15_method_70_code
def yJ9_min_f86c9 : MethodName := ⟨RJ9, "min", "(JJ)J"⟩
def RJ0 : String := "java/lang/String"
def TJ0 : u_T := fun k => match k with
  | _ => ("", "", "", false)
def tyJ0 : Nat → FieldType := fun k => match k with
  | _ => .int
abbrev wsJ00 : List Cond := u_ws RJ0 TJ0 0
theorem nmJ0 : ∀ a, a < 0 → ∀ b, b < 0 → a ≠ b → (TJ0 a).2.1 ≠ (TJ0 b).2.1 := by decide +kernel
theorem tyJ0_ok : ∀ k, k < 0 → parseFieldDescriptor (TJ0 k).2.2.1 = some (tyJ0 k) := by decide +kernel
abbrev cJ0_length_8abf5 : ByteArray := prog_16_method_54_code
def yJ0_length_8abf5 : MethodName := ⟨RJ0, "length", "()I"⟩
abbrev cJ0_charAt_5068e : ByteArray := prog_16_method_56_code
def yJ0_charAt_5068e : MethodName := ⟨RJ0, "charAt", "(I)C"⟩
abbrev cJ0_coder_7d493 : ByteArray := prog_16_method_152_code
def yJ0_coder_7d493 : MethodName := ⟨RJ0, "coder", "()B"⟩
abbrev cJ0_isLatin1_aae02 : ByteArray := prog_16_method_154_code
def yJ0_isLatin1_aae02 : MethodName := ⟨RJ0, "isLatin1", "()Z"⟩
abbrev cJ0_checkIndex_df160 : ByteArray := prog_16_method_155_code
def yJ0_checkIndex_df160 : MethodName := ⟨RJ0, "checkIndex", "(II)V"⟩
def RJ1 : String := "java/lang/StringLatin1"
def TJ1 : u_T := fun k => match k with
  | _ => ("", "", "", false)
def tyJ1 : Nat → FieldType := fun k => match k with
  | _ => .int
abbrev wsJ10 : List Cond := u_ws RJ1 TJ1 0
theorem nmJ1 : ∀ a, a < 0 → ∀ b, b < 0 → a ≠ b → (TJ1 a).2.1 ≠ (TJ1 b).2.1 := by decide +kernel
theorem tyJ1_ok : ∀ k, k < 0 → parseFieldDescriptor (TJ1 k).2.2.1 = some (tyJ1 k) := by decide +kernel
abbrev cJ1_charAt_3b067 : ByteArray := prog_17_method_2_code
def yJ1_charAt_3b067 : MethodName := ⟨RJ1, "charAt", "([BI)C"⟩
def RJ2 : String := "java/lang/StringUTF16"
def TJ2 : u_T := fun k => match k with
  | _ => ("", "", "", false)
def tyJ2 : Nat → FieldType := fun k => match k with
  | _ => .int
abbrev wsJ20 : List Cond := u_ws RJ2 TJ2 0
theorem nmJ2 : ∀ a, a < 0 → ∀ b, b < 0 → a ≠ b → (TJ2 a).2.1 ≠ (TJ2 b).2.1 := by decide +kernel
theorem tyJ2_ok : ∀ k, k < 0 → parseFieldDescriptor (TJ2 k).2.2.1 = some (tyJ2 k) := by decide +kernel
abbrev cJ2_getChar_3b067 : ByteArray := prog_18_method_5_code
def yJ2_getChar_3b067 : MethodName := ⟨RJ2, "getChar", "([BI)C"⟩
abbrev cJ2_length_9d52b : ByteArray := prog_18_method_6_code
def yJ2_length_9d52b : MethodName := ⟨RJ2, "length", "([B)I"⟩
abbrev cJ2_charAt_3b067 : ByteArray := prog_18_method_83_code
def yJ2_charAt_3b067 : MethodName := ⟨RJ2, "charAt", "([BI)C"⟩
abbrev cJ2_checkIndex_2214a : ByteArray := prog_18_method_91_code
def yJ2_checkIndex_2214a : MethodName := ⟨RJ2, "checkIndex", "(I[B)V"⟩
def RJ10 : String := "java/lang/System"
def TJ10 : u_T := fun k => match k with
  | _ => ("", "", "", false)
def tyJ10 : Nat → FieldType := fun k => match k with
  | _ => .int
abbrev wsJ100 : List Cond := u_ws RJ10 TJ10 0
theorem nmJ10 : ∀ a, a < 0 → ∀ b, b < 0 → a ≠ b → (TJ10 a).2.1 ≠ (TJ10 b).2.1 := by decide +kernel
theorem tyJ10_ok : ∀ k, k < 0 → parseFieldDescriptor (TJ10 k).2.2.1 = some (tyJ10 k) := by decide +kernel
def RJ3 : String := "jdk/internal/util/Preconditions"
def TJ3 : u_T := fun k => match k with
  | _ => ("", "", "", false)
def tyJ3 : Nat → FieldType := fun k => match k with
  | _ => .int
abbrev wsJ30 : List Cond := u_ws RJ3 TJ3 0
theorem nmJ3 : ∀ a, a < 0 → ∀ b, b < 0 → a ≠ b → (TJ3 a).2.1 ≠ (TJ3 b).2.1 := by decide +kernel
theorem tyJ3_ok : ∀ k, k < 0 → parseFieldDescriptor (TJ3 k).2.2.1 = some (tyJ3 k) := by decide +kernel
abbrev cJ3_checkIndex_8e157 : ByteArray := prog_20_method_11_code
def yJ3_checkIndex_8e157 : MethodName := ⟨RJ3, "checkIndex", "(IILjava/util/function/BiFunction;)I"⟩
def RL : String := "StarShellsLaw"
abbrev cL_law : ByteArray := code
def yL_law : MethodName := ⟨RL, "law", "([I)Z"⟩
abbrev vwCl : List vw_C := [(RX0, TX0, 5), (RX1, TX1, 1), (RX2, TX2, 11), (RX3, TX3, 5), (RX4, TX4, 11), (RX5, TX5, 4), (RX6, TX6, 4), (RX7, TX7, 6), (RX8, TX8, 2), (RX9, TX9, 2), (RX10, TX10, 6), (RX11, TX11, 12), (RX12, TX12, 28)]
/-- the objects of StarShells$Boxes, kind 0: what each holds, by its address -/
def gw : List Cond := lw_tbl.filter goodWord
end
section
theorem dJ9_floorDiv_f86c9_0 : decode cJ9_floorDiv_f86c9 0 = .ok (.lload_n 0, 1) := by decide +kernel
theorem dJ9_floorDiv_f86c9_1 : decode cJ9_floorDiv_f86c9 1 = .ok (.lload_n 2, 1) := by decide +kernel
theorem dJ9_floorDiv_f86c9_2 : decode cJ9_floorDiv_f86c9 2 = .ok (.ldiv, 1) := by decide +kernel
theorem dJ9_floorDiv_f86c9_3 : decode cJ9_floorDiv_f86c9 3 = .ok (.lstore 4, 2) := by decide +kernel
theorem dJ9_floorDiv_f86c9_5 : decode cJ9_floorDiv_f86c9 5 = .ok (.lload_n 0, 1) := by decide +kernel
theorem dJ9_floorDiv_f86c9_6 : decode cJ9_floorDiv_f86c9 6 = .ok (.lload_n 2, 1) := by decide +kernel
theorem dJ9_floorDiv_f86c9_7 : decode cJ9_floorDiv_f86c9 7 = .ok (.lxor, 1) := by decide +kernel
theorem dJ9_floorDiv_f86c9_8 : decode cJ9_floorDiv_f86c9 8 = .ok (.lconst 0, 1) := by decide +kernel
theorem dJ9_floorDiv_f86c9_9 : decode cJ9_floorDiv_f86c9 9 = .ok (.lcmp, 1) := by decide +kernel
theorem dJ9_floorDiv_f86c9_10 : decode cJ9_floorDiv_f86c9 10 = .ok (.ifCond .ge 17, 3) := by decide +kernel
theorem dJ9_floorDiv_f86c9_13 : decode cJ9_floorDiv_f86c9 13 = .ok (.lload 4, 2) := by decide +kernel
theorem dJ9_floorDiv_f86c9_15 : decode cJ9_floorDiv_f86c9 15 = .ok (.lload_n 2, 1) := by decide +kernel
theorem dJ9_floorDiv_f86c9_16 : decode cJ9_floorDiv_f86c9 16 = .ok (.lmul, 1) := by decide +kernel
theorem dJ9_floorDiv_f86c9_17 : decode cJ9_floorDiv_f86c9 17 = .ok (.lload_n 0, 1) := by decide +kernel
theorem dJ9_floorDiv_f86c9_18 : decode cJ9_floorDiv_f86c9 18 = .ok (.lcmp, 1) := by decide +kernel
theorem dJ9_floorDiv_f86c9_19 : decode cJ9_floorDiv_f86c9 19 = .ok (.ifCond .eq 8, 3) := by decide +kernel
theorem dJ9_floorDiv_f86c9_22 : decode cJ9_floorDiv_f86c9 22 = .ok (.lload 4, 2) := by decide +kernel
theorem dJ9_floorDiv_f86c9_24 : decode cJ9_floorDiv_f86c9 24 = .ok (.lconst 1, 1) := by decide +kernel
theorem dJ9_floorDiv_f86c9_25 : decode cJ9_floorDiv_f86c9 25 = .ok (.lsub, 1) := by decide +kernel
theorem dJ9_floorDiv_f86c9_26 : decode cJ9_floorDiv_f86c9 26 = .ok (.lreturn, 1) := by decide +kernel
theorem dJ9_floorDiv_f86c9_27 : decode cJ9_floorDiv_f86c9 27 = .ok (.lload 4, 2) := by decide +kernel
theorem dJ9_floorDiv_f86c9_29 : decode cJ9_floorDiv_f86c9 29 = .ok (.lreturn, 1) := by decide +kernel
theorem dJ9_max_7cf53_0 : decode cJ9_max_7cf53 0 = .ok (.iload_n 0, 1) := by decide +kernel
theorem dJ9_max_7cf53_1 : decode cJ9_max_7cf53 1 = .ok (.iload_n 1, 1) := by decide +kernel
theorem dJ9_max_7cf53_2 : decode cJ9_max_7cf53 2 = .ok (.if_icmp .lt 7, 3) := by decide +kernel
theorem dJ9_max_7cf53_5 : decode cJ9_max_7cf53 5 = .ok (.iload_n 0, 1) := by decide +kernel
theorem dJ9_max_7cf53_6 : decode cJ9_max_7cf53 6 = .ok (.goto 4, 3) := by decide +kernel
theorem dJ9_max_7cf53_9 : decode cJ9_max_7cf53 9 = .ok (.iload_n 1, 1) := by decide +kernel
theorem dJ9_max_7cf53_10 : decode cJ9_max_7cf53 10 = .ok (.ireturn, 1) := by decide +kernel
theorem dJ9_max_f86c9_0 : decode cJ9_max_f86c9 0 = .ok (.lload_n 0, 1) := by decide +kernel
theorem dJ9_max_f86c9_1 : decode cJ9_max_f86c9 1 = .ok (.lload_n 2, 1) := by decide +kernel
theorem dJ9_max_f86c9_2 : decode cJ9_max_f86c9 2 = .ok (.lcmp, 1) := by decide +kernel
theorem dJ9_max_f86c9_3 : decode cJ9_max_f86c9 3 = .ok (.ifCond .lt 7, 3) := by decide +kernel
theorem dJ9_max_f86c9_6 : decode cJ9_max_f86c9 6 = .ok (.lload_n 0, 1) := by decide +kernel
theorem dJ9_max_f86c9_7 : decode cJ9_max_f86c9 7 = .ok (.goto 4, 3) := by decide +kernel
theorem dJ9_max_f86c9_10 : decode cJ9_max_f86c9 10 = .ok (.lload_n 2, 1) := by decide +kernel
theorem dJ9_max_f86c9_11 : decode cJ9_max_f86c9 11 = .ok (.lreturn, 1) := by decide +kernel
theorem dJ9_min_7cf53_0 : decode cJ9_min_7cf53 0 = .ok (.iload_n 0, 1) := by decide +kernel
theorem dJ9_min_7cf53_1 : decode cJ9_min_7cf53 1 = .ok (.iload_n 1, 1) := by decide +kernel
theorem dJ9_min_7cf53_2 : decode cJ9_min_7cf53 2 = .ok (.if_icmp .gt 7, 3) := by decide +kernel
theorem dJ9_min_7cf53_5 : decode cJ9_min_7cf53 5 = .ok (.iload_n 0, 1) := by decide +kernel
theorem dJ9_min_7cf53_6 : decode cJ9_min_7cf53 6 = .ok (.goto 4, 3) := by decide +kernel
theorem dJ9_min_7cf53_9 : decode cJ9_min_7cf53 9 = .ok (.iload_n 1, 1) := by decide +kernel
theorem dJ9_min_7cf53_10 : decode cJ9_min_7cf53 10 = .ok (.ireturn, 1) := by decide +kernel
theorem dJ9_min_f86c9_0 : decode cJ9_min_f86c9 0 = .ok (.lload_n 0, 1) := by decide +kernel
theorem dJ9_min_f86c9_1 : decode cJ9_min_f86c9 1 = .ok (.lload_n 2, 1) := by decide +kernel
theorem dJ9_min_f86c9_2 : decode cJ9_min_f86c9 2 = .ok (.lcmp, 1) := by decide +kernel
theorem dJ9_min_f86c9_3 : decode cJ9_min_f86c9 3 = .ok (.ifCond .gt 7, 3) := by decide +kernel
theorem dJ9_min_f86c9_6 : decode cJ9_min_f86c9 6 = .ok (.lload_n 0, 1) := by decide +kernel
theorem dJ9_min_f86c9_7 : decode cJ9_min_f86c9 7 = .ok (.goto 4, 3) := by decide +kernel
theorem dJ9_min_f86c9_10 : decode cJ9_min_f86c9 10 = .ok (.lload_n 2, 1) := by decide +kernel
theorem dJ9_min_f86c9_11 : decode cJ9_min_f86c9 11 = .ok (.lreturn, 1) := by decide +kernel
theorem dJ0_length_8abf5_0 : decode cJ0_length_8abf5 0 = .ok (.aload_n 0, 1) := by decide +kernel
theorem dJ0_length_8abf5_1 : decode cJ0_length_8abf5 1 = .ok (.getfield 9, 3) := by decide +kernel
theorem dJ0_length_8abf5_4 : decode cJ0_length_8abf5 4 = .ok (.arraylength, 1) := by decide +kernel
theorem dJ0_length_8abf5_5 : decode cJ0_length_8abf5 5 = .ok (.aload_n 0, 1) := by decide +kernel
theorem dJ0_length_8abf5_6 : decode cJ0_length_8abf5 6 = .ok (.invokevirtual 335, 3) := by decide +kernel
theorem dJ0_length_8abf5_9 : decode cJ0_length_8abf5 9 = .ok (.ishr, 1) := by decide +kernel
theorem dJ0_length_8abf5_10 : decode cJ0_length_8abf5 10 = .ok (.ireturn, 1) := by decide +kernel
theorem dJ0_charAt_5068e_0 : decode cJ0_charAt_5068e 0 = .ok (.aload_n 0, 1) := by decide +kernel
theorem dJ0_charAt_5068e_1 : decode cJ0_charAt_5068e 1 = .ok (.invokevirtual 492, 3) := by decide +kernel
theorem dJ0_charAt_5068e_4 : decode cJ0_charAt_5068e 4 = .ok (.ifCond .eq 12, 3) := by decide +kernel
theorem dJ0_charAt_5068e_7 : decode cJ0_charAt_5068e 7 = .ok (.aload_n 0, 1) := by decide +kernel
theorem dJ0_charAt_5068e_8 : decode cJ0_charAt_5068e 8 = .ok (.getfield 9, 3) := by decide +kernel
theorem dJ0_charAt_5068e_11 : decode cJ0_charAt_5068e 11 = .ok (.iload_n 1, 1) := by decide +kernel
theorem dJ0_charAt_5068e_12 : decode cJ0_charAt_5068e 12 = .ok (.invokestatic 495, 3) := by decide +kernel
theorem dJ0_charAt_5068e_15 : decode cJ0_charAt_5068e 15 = .ok (.ireturn, 1) := by decide +kernel
theorem dJ0_charAt_5068e_16 : decode cJ0_charAt_5068e 16 = .ok (.aload_n 0, 1) := by decide +kernel
theorem dJ0_charAt_5068e_17 : decode cJ0_charAt_5068e 17 = .ok (.getfield 9, 3) := by decide +kernel
theorem dJ0_charAt_5068e_20 : decode cJ0_charAt_5068e 20 = .ok (.iload_n 1, 1) := by decide +kernel
theorem dJ0_charAt_5068e_21 : decode cJ0_charAt_5068e 21 = .ok (.invokestatic 498, 3) := by decide +kernel
theorem dJ0_charAt_5068e_24 : decode cJ0_charAt_5068e 24 = .ok (.ireturn, 1) := by decide +kernel
theorem dJ0_coder_7d493_0 : decode cJ0_coder_7d493 0 = .ok (.getstatic 38, 3) := by decide +kernel
theorem dJ0_coder_7d493_3 : decode cJ0_coder_7d493 3 = .ok (.ifCond .eq 10, 3) := by decide +kernel
theorem dJ0_coder_7d493_6 : decode cJ0_coder_7d493 6 = .ok (.aload_n 0, 1) := by decide +kernel
theorem dJ0_coder_7d493_7 : decode cJ0_coder_7d493 7 = .ok (.getfield 15, 3) := by decide +kernel
theorem dJ0_coder_7d493_10 : decode cJ0_coder_7d493 10 = .ok (.goto 4, 3) := by decide +kernel
theorem dJ0_coder_7d493_13 : decode cJ0_coder_7d493 13 = .ok (.iconst 1, 1) := by decide +kernel
theorem dJ0_coder_7d493_14 : decode cJ0_coder_7d493 14 = .ok (.ireturn, 1) := by decide +kernel
theorem dJ0_isLatin1_aae02_0 : decode cJ0_isLatin1_aae02 0 = .ok (.getstatic 38, 3) := by decide +kernel
theorem dJ0_isLatin1_aae02_3 : decode cJ0_isLatin1_aae02 3 = .ok (.ifCond .eq 14, 3) := by decide +kernel
theorem dJ0_isLatin1_aae02_6 : decode cJ0_isLatin1_aae02 6 = .ok (.aload_n 0, 1) := by decide +kernel
theorem dJ0_isLatin1_aae02_7 : decode cJ0_isLatin1_aae02 7 = .ok (.getfield 15, 3) := by decide +kernel
theorem dJ0_isLatin1_aae02_10 : decode cJ0_isLatin1_aae02 10 = .ok (.ifCond .ne 7, 3) := by decide +kernel
theorem dJ0_isLatin1_aae02_13 : decode cJ0_isLatin1_aae02 13 = .ok (.iconst 1, 1) := by decide +kernel
theorem dJ0_isLatin1_aae02_14 : decode cJ0_isLatin1_aae02 14 = .ok (.goto 4, 3) := by decide +kernel
theorem dJ0_isLatin1_aae02_17 : decode cJ0_isLatin1_aae02 17 = .ok (.iconst 0, 1) := by decide +kernel
theorem dJ0_isLatin1_aae02_18 : decode cJ0_isLatin1_aae02 18 = .ok (.ireturn, 1) := by decide +kernel
theorem dJ0_checkIndex_df160_0 : decode cJ0_checkIndex_df160 0 = .ok (.iload_n 0, 1) := by decide +kernel
theorem dJ0_checkIndex_df160_1 : decode cJ0_checkIndex_df160 1 = .ok (.iload_n 1, 1) := by decide +kernel
theorem dJ0_checkIndex_df160_2 : decode cJ0_checkIndex_df160 2 = .ok (.getstatic 1053, 3) := by decide +kernel
theorem dJ0_checkIndex_df160_5 : decode cJ0_checkIndex_df160 5 = .ok (.invokestatic 1059, 3) := by decide +kernel
theorem dJ0_checkIndex_df160_8 : decode cJ0_checkIndex_df160 8 = .ok (.pop, 1) := by decide +kernel
theorem dJ0_checkIndex_df160_9 : decode cJ0_checkIndex_df160 9 = .ok (.return_, 1) := by decide +kernel
theorem dJ1_charAt_3b067_0 : decode cJ1_charAt_3b067 0 = .ok (.iload_n 1, 1) := by decide +kernel
theorem dJ1_charAt_3b067_1 : decode cJ1_charAt_3b067 1 = .ok (.aload_n 0, 1) := by decide +kernel
theorem dJ1_charAt_3b067_2 : decode cJ1_charAt_3b067 2 = .ok (.arraylength, 1) := by decide +kernel
theorem dJ1_charAt_3b067_3 : decode cJ1_charAt_3b067 3 = .ok (.invokestatic 9, 3) := by decide +kernel
theorem dJ1_charAt_3b067_6 : decode cJ1_charAt_3b067 6 = .ok (.aload_n 0, 1) := by decide +kernel
theorem dJ1_charAt_3b067_7 : decode cJ1_charAt_3b067 7 = .ok (.iload_n 1, 1) := by decide +kernel
theorem dJ1_charAt_3b067_8 : decode cJ1_charAt_3b067 8 = .ok (.baload, 1) := by decide +kernel
theorem dJ1_charAt_3b067_9 : decode cJ1_charAt_3b067 9 = .ok (.sipush 255, 3) := by decide +kernel
theorem dJ1_charAt_3b067_12 : decode cJ1_charAt_3b067 12 = .ok (.iand, 1) := by decide +kernel
theorem dJ1_charAt_3b067_13 : decode cJ1_charAt_3b067 13 = .ok (.i2c, 1) := by decide +kernel
theorem dJ1_charAt_3b067_14 : decode cJ1_charAt_3b067 14 = .ok (.ireturn, 1) := by decide +kernel
theorem dJ2_getChar_3b067_0 : decode cJ2_getChar_3b067 0 = .ok (.getstatic 44, 3) := by decide +kernel
theorem dJ2_getChar_3b067_3 : decode cJ2_getChar_3b067 3 = .ok (.ifCond .ne 25, 3) := by decide +kernel
theorem dJ2_getChar_3b067_6 : decode cJ2_getChar_3b067 6 = .ok (.iload_n 1, 1) := by decide +kernel
theorem dJ2_getChar_3b067_7 : decode cJ2_getChar_3b067 7 = .ok (.ifCond .lt 11, 3) := by decide +kernel
theorem dJ2_getChar_3b067_10 : decode cJ2_getChar_3b067 10 = .ok (.iload_n 1, 1) := by decide +kernel
theorem dJ2_getChar_3b067_11 : decode cJ2_getChar_3b067 11 = .ok (.aload_n 0, 1) := by decide +kernel
theorem dJ2_getChar_3b067_12 : decode cJ2_getChar_3b067 12 = .ok (.invokestatic 48, 3) := by decide +kernel
theorem dJ2_getChar_3b067_15 : decode cJ2_getChar_3b067 15 = .ok (.if_icmp .lt 13, 3) := by decide +kernel
theorem dJ2_getChar_3b067_18 : decode cJ2_getChar_3b067 18 = .ok (.new 52, 3) := by decide +kernel
theorem dJ2_getChar_3b067_21 : decode cJ2_getChar_3b067 21 = .ok (.dup, 1) := by decide +kernel
theorem dJ2_getChar_3b067_22 : decode cJ2_getChar_3b067 22 = .ok (.ldc 54, 2) := by decide +kernel
theorem dJ2_getChar_3b067_24 : decode cJ2_getChar_3b067 24 = .ok (.invokespecial 56, 3) := by decide +kernel
theorem dJ2_getChar_3b067_27 : decode cJ2_getChar_3b067 27 = .ok (.athrow, 1) := by decide +kernel
theorem dJ2_getChar_3b067_28 : decode cJ2_getChar_3b067 28 = .ok (.iload_n 1, 1) := by decide +kernel
theorem dJ2_getChar_3b067_29 : decode cJ2_getChar_3b067 29 = .ok (.iconst 1, 1) := by decide +kernel
theorem dJ2_getChar_3b067_30 : decode cJ2_getChar_3b067 30 = .ok (.ishl, 1) := by decide +kernel
theorem dJ2_getChar_3b067_31 : decode cJ2_getChar_3b067 31 = .ok (.istore_n 1, 1) := by decide +kernel
theorem dJ2_getChar_3b067_32 : decode cJ2_getChar_3b067 32 = .ok (.aload_n 0, 1) := by decide +kernel
theorem dJ2_getChar_3b067_33 : decode cJ2_getChar_3b067 33 = .ok (.iload_n 1, 1) := by decide +kernel
theorem dJ2_getChar_3b067_34 : decode cJ2_getChar_3b067 34 = .ok (.iinc 1 1, 3) := by decide +kernel
theorem dJ2_getChar_3b067_37 : decode cJ2_getChar_3b067 37 = .ok (.baload, 1) := by decide +kernel
theorem dJ2_getChar_3b067_38 : decode cJ2_getChar_3b067 38 = .ok (.sipush 255, 3) := by decide +kernel
theorem dJ2_getChar_3b067_41 : decode cJ2_getChar_3b067 41 = .ok (.iand, 1) := by decide +kernel
theorem dJ2_getChar_3b067_42 : decode cJ2_getChar_3b067 42 = .ok (.getstatic 59, 3) := by decide +kernel
theorem dJ2_getChar_3b067_45 : decode cJ2_getChar_3b067 45 = .ok (.ishl, 1) := by decide +kernel
theorem dJ2_getChar_3b067_46 : decode cJ2_getChar_3b067 46 = .ok (.aload_n 0, 1) := by decide +kernel
theorem dJ2_getChar_3b067_47 : decode cJ2_getChar_3b067 47 = .ok (.iload_n 1, 1) := by decide +kernel
theorem dJ2_getChar_3b067_48 : decode cJ2_getChar_3b067 48 = .ok (.baload, 1) := by decide +kernel
theorem dJ2_getChar_3b067_49 : decode cJ2_getChar_3b067 49 = .ok (.sipush 255, 3) := by decide +kernel
theorem dJ2_getChar_3b067_52 : decode cJ2_getChar_3b067 52 = .ok (.iand, 1) := by decide +kernel
theorem dJ2_getChar_3b067_53 : decode cJ2_getChar_3b067 53 = .ok (.getstatic 63, 3) := by decide +kernel
theorem dJ2_getChar_3b067_56 : decode cJ2_getChar_3b067 56 = .ok (.ishl, 1) := by decide +kernel
theorem dJ2_getChar_3b067_57 : decode cJ2_getChar_3b067 57 = .ok (.ior, 1) := by decide +kernel
theorem dJ2_getChar_3b067_58 : decode cJ2_getChar_3b067 58 = .ok (.i2c, 1) := by decide +kernel
theorem dJ2_getChar_3b067_59 : decode cJ2_getChar_3b067 59 = .ok (.ireturn, 1) := by decide +kernel
theorem dJ2_length_9d52b_0 : decode cJ2_length_9d52b 0 = .ok (.aload_n 0, 1) := by decide +kernel
theorem dJ2_length_9d52b_1 : decode cJ2_length_9d52b 1 = .ok (.arraylength, 1) := by decide +kernel
theorem dJ2_length_9d52b_2 : decode cJ2_length_9d52b 2 = .ok (.iconst 1, 1) := by decide +kernel
theorem dJ2_length_9d52b_3 : decode cJ2_length_9d52b 3 = .ok (.ishr, 1) := by decide +kernel
theorem dJ2_length_9d52b_4 : decode cJ2_length_9d52b 4 = .ok (.ireturn, 1) := by decide +kernel
theorem dJ2_charAt_3b067_0 : decode cJ2_charAt_3b067 0 = .ok (.iload_n 1, 1) := by decide +kernel
theorem dJ2_charAt_3b067_1 : decode cJ2_charAt_3b067 1 = .ok (.aload_n 0, 1) := by decide +kernel
theorem dJ2_charAt_3b067_2 : decode cJ2_charAt_3b067 2 = .ok (.invokestatic 67, 3) := by decide +kernel
theorem dJ2_charAt_3b067_5 : decode cJ2_charAt_3b067 5 = .ok (.aload_n 0, 1) := by decide +kernel
theorem dJ2_charAt_3b067_6 : decode cJ2_charAt_3b067 6 = .ok (.iload_n 1, 1) := by decide +kernel
theorem dJ2_charAt_3b067_7 : decode cJ2_charAt_3b067 7 = .ok (.invokestatic 71, 3) := by decide +kernel
theorem dJ2_charAt_3b067_10 : decode cJ2_charAt_3b067 10 = .ok (.ireturn, 1) := by decide +kernel
theorem dJ2_checkIndex_2214a_0 : decode cJ2_checkIndex_2214a 0 = .ok (.iload_n 0, 1) := by decide +kernel
theorem dJ2_checkIndex_2214a_1 : decode cJ2_checkIndex_2214a 1 = .ok (.aload_n 1, 1) := by decide +kernel
theorem dJ2_checkIndex_2214a_2 : decode cJ2_checkIndex_2214a 2 = .ok (.invokestatic 48, 3) := by decide +kernel
theorem dJ2_checkIndex_2214a_5 : decode cJ2_checkIndex_2214a 5 = .ok (.invokestatic 414, 3) := by decide +kernel
theorem dJ2_checkIndex_2214a_8 : decode cJ2_checkIndex_2214a 8 = .ok (.return_, 1) := by decide +kernel
theorem dJ3_checkIndex_8e157_0 : decode cJ3_checkIndex_8e157 0 = .ok (.iload_n 0, 1) := by decide +kernel
theorem dJ3_checkIndex_8e157_1 : decode cJ3_checkIndex_8e157 1 = .ok (.ifCond .lt 8, 3) := by decide +kernel
theorem dJ3_checkIndex_8e157_4 : decode cJ3_checkIndex_8e157 4 = .ok (.iload_n 0, 1) := by decide +kernel
theorem dJ3_checkIndex_8e157_5 : decode cJ3_checkIndex_8e157 5 = .ok (.iload_n 1, 1) := by decide +kernel
theorem dJ3_checkIndex_8e157_6 : decode cJ3_checkIndex_8e157 6 = .ok (.if_icmp .lt 10, 3) := by decide +kernel
theorem dJ3_checkIndex_8e157_9 : decode cJ3_checkIndex_8e157 9 = .ok (.aload_n 2, 1) := by decide +kernel
theorem dJ3_checkIndex_8e157_10 : decode cJ3_checkIndex_8e157 10 = .ok (.iload_n 0, 1) := by decide +kernel
theorem dJ3_checkIndex_8e157_11 : decode cJ3_checkIndex_8e157 11 = .ok (.iload_n 1, 1) := by decide +kernel
theorem dJ3_checkIndex_8e157_12 : decode cJ3_checkIndex_8e157 12 = .ok (.invokestatic 95, 3) := by decide +kernel
theorem dJ3_checkIndex_8e157_15 : decode cJ3_checkIndex_8e157 15 = .ok (.athrow, 1) := by decide +kernel
theorem dJ3_checkIndex_8e157_16 : decode cJ3_checkIndex_8e157 16 = .ok (.iload_n 0, 1) := by decide +kernel
theorem dJ3_checkIndex_8e157_17 : decode cJ3_checkIndex_8e157 17 = .ok (.ireturn, 1) := by decide +kernel
end
section
theorem dL_law_0 : decode cL_law 0 = .ok (.new 7, 3) := by decide +kernel
theorem dL_law_3 : decode cL_law 3 = .ok (.dup, 1) := by decide +kernel
theorem dL_law_4 : decode cL_law 4 = .ok (.invokespecial 9, 3) := by decide +kernel
theorem dL_law_7 : decode cL_law 7 = .ok (.astore_n 1, 1) := by decide +kernel
theorem dL_law_8 : decode cL_law 8 = .ok (.new 10, 3) := by decide +kernel
theorem dL_law_11 : decode cL_law 11 = .ok (.dup, 1) := by decide +kernel
theorem dL_law_12 : decode cL_law 12 = .ok (.invokespecial 12, 3) := by decide +kernel
theorem dL_law_15 : decode cL_law 15 = .ok (.astore_n 2, 1) := by decide +kernel
theorem dL_law_16 : decode cL_law 16 = .ok (.iconst 0, 1) := by decide +kernel
theorem dL_law_17 : decode cL_law 17 = .ok (.istore_n 3, 1) := by decide +kernel
theorem dL_law_18 : decode cL_law 18 = .ok (.iload_n 3, 1) := by decide +kernel
theorem dL_law_19 : decode cL_law 19 = .ok (.aload_n 0, 1) := by decide +kernel
theorem dL_law_20 : decode cL_law 20 = .ok (.arraylength, 1) := by decide +kernel
theorem dL_law_21 : decode cL_law 21 = .ok (.bipush 6, 2) := by decide +kernel
theorem dL_law_23 : decode cL_law 23 = .ok (.isub, 1) := by decide +kernel
theorem dL_law_24 : decode cL_law 24 = .ok (.if_icmp .gt 1230, 3) := by decide +kernel
theorem dL_law_27 : decode cL_law 27 = .ok (.aload_n 0, 1) := by decide +kernel
theorem dL_law_28 : decode cL_law 28 = .ok (.iload_n 3, 1) := by decide +kernel
theorem dL_law_29 : decode cL_law 29 = .ok (.iaload, 1) := by decide +kernel
theorem dL_law_30 : decode cL_law 30 = .ok (.bipush 31, 2) := by decide +kernel
theorem dL_law_32 : decode cL_law 32 = .ok (.iand, 1) := by decide +kernel
theorem dL_law_33 : decode cL_law 33 = .ok (.tableswitch 1215 0 29 #[135, 198, 221, 234, 257, 280, 303, 336, 395, 418, 471, 514, 557, 600, 669, 729, 752, 785, 818, 851, 895, 918, 991, 1014, 1047, 1080, 1133, 1166, 1179, 1192], 135) := by decide +kernel
theorem dL_law_168 : decode cL_law 168 = .ok (.aload_n 1, 1) := by decide +kernel
theorem dL_law_169 : decode cL_law 169 = .ok (.aload_n 0, 1) := by decide +kernel
theorem dL_law_170 : decode cL_law 170 = .ok (.iload_n 3, 1) := by decide +kernel
theorem dL_law_171 : decode cL_law 171 = .ok (.iconst 1, 1) := by decide +kernel
theorem dL_law_172 : decode cL_law 172 = .ok (.iadd, 1) := by decide +kernel
theorem dL_law_173 : decode cL_law 173 = .ok (.iaload, 1) := by decide +kernel
theorem dL_law_174 : decode cL_law 174 = .ok (.aload_n 0, 1) := by decide +kernel
theorem dL_law_175 : decode cL_law 175 = .ok (.iload_n 3, 1) := by decide +kernel
theorem dL_law_176 : decode cL_law 176 = .ok (.iconst 2, 1) := by decide +kernel
theorem dL_law_177 : decode cL_law 177 = .ok (.iadd, 1) := by decide +kernel
theorem dL_law_178 : decode cL_law 178 = .ok (.iaload, 1) := by decide +kernel
theorem dL_law_179 : decode cL_law 179 = .ok (.aload_n 0, 1) := by decide +kernel
theorem dL_law_180 : decode cL_law 180 = .ok (.iload_n 3, 1) := by decide +kernel
theorem dL_law_181 : decode cL_law 181 = .ok (.iconst 3, 1) := by decide +kernel
theorem dL_law_182 : decode cL_law 182 = .ok (.iadd, 1) := by decide +kernel
theorem dL_law_183 : decode cL_law 183 = .ok (.iaload, 1) := by decide +kernel
theorem dL_law_184 : decode cL_law 184 = .ok (.aload_n 0, 1) := by decide +kernel
theorem dL_law_185 : decode cL_law 185 = .ok (.iload_n 3, 1) := by decide +kernel
theorem dL_law_186 : decode cL_law 186 = .ok (.iconst 4, 1) := by decide +kernel
theorem dL_law_187 : decode cL_law 187 = .ok (.iadd, 1) := by decide +kernel
theorem dL_law_188 : decode cL_law 188 = .ok (.iaload, 1) := by decide +kernel
theorem dL_law_189 : decode cL_law 189 = .ok (.aload_n 0, 1) := by decide +kernel
theorem dL_law_190 : decode cL_law 190 = .ok (.iload_n 3, 1) := by decide +kernel
theorem dL_law_191 : decode cL_law 191 = .ok (.iconst 5, 1) := by decide +kernel
theorem dL_law_192 : decode cL_law 192 = .ok (.iadd, 1) := by decide +kernel
theorem dL_law_193 : decode cL_law 193 = .ok (.iaload, 1) := by decide +kernel
theorem dL_law_194 : decode cL_law 194 = .ok (.invokevirtual 13, 3) := by decide +kernel
theorem dL_law_197 : decode cL_law 197 = .ok (.aload_n 2, 1) := by decide +kernel
theorem dL_law_198 : decode cL_law 198 = .ok (.aload_n 0, 1) := by decide +kernel
theorem dL_law_199 : decode cL_law 199 = .ok (.iload_n 3, 1) := by decide +kernel
theorem dL_law_200 : decode cL_law 200 = .ok (.iconst 1, 1) := by decide +kernel
theorem dL_law_201 : decode cL_law 201 = .ok (.iadd, 1) := by decide +kernel
theorem dL_law_202 : decode cL_law 202 = .ok (.iaload, 1) := by decide +kernel
theorem dL_law_203 : decode cL_law 203 = .ok (.aload_n 0, 1) := by decide +kernel
theorem dL_law_204 : decode cL_law 204 = .ok (.iload_n 3, 1) := by decide +kernel
theorem dL_law_205 : decode cL_law 205 = .ok (.iconst 2, 1) := by decide +kernel
theorem dL_law_206 : decode cL_law 206 = .ok (.iadd, 1) := by decide +kernel
theorem dL_law_207 : decode cL_law 207 = .ok (.iaload, 1) := by decide +kernel
theorem dL_law_208 : decode cL_law 208 = .ok (.aload_n 0, 1) := by decide +kernel
theorem dL_law_209 : decode cL_law 209 = .ok (.iload_n 3, 1) := by decide +kernel
theorem dL_law_210 : decode cL_law 210 = .ok (.iconst 3, 1) := by decide +kernel
theorem dL_law_211 : decode cL_law 211 = .ok (.iadd, 1) := by decide +kernel
theorem dL_law_212 : decode cL_law 212 = .ok (.iaload, 1) := by decide +kernel
theorem dL_law_213 : decode cL_law 213 = .ok (.aload_n 0, 1) := by decide +kernel
theorem dL_law_214 : decode cL_law 214 = .ok (.iload_n 3, 1) := by decide +kernel
theorem dL_law_215 : decode cL_law 215 = .ok (.iconst 4, 1) := by decide +kernel
theorem dL_law_216 : decode cL_law 216 = .ok (.iadd, 1) := by decide +kernel
theorem dL_law_217 : decode cL_law 217 = .ok (.iaload, 1) := by decide +kernel
theorem dL_law_218 : decode cL_law 218 = .ok (.aload_n 0, 1) := by decide +kernel
theorem dL_law_219 : decode cL_law 219 = .ok (.iload_n 3, 1) := by decide +kernel
theorem dL_law_220 : decode cL_law 220 = .ok (.iconst 5, 1) := by decide +kernel
theorem dL_law_221 : decode cL_law 221 = .ok (.iadd, 1) := by decide +kernel
theorem dL_law_222 : decode cL_law 222 = .ok (.iaload, 1) := by decide +kernel
theorem dL_law_223 : decode cL_law 223 = .ok (.invokevirtual 17, 3) := by decide +kernel
theorem dL_law_226 : decode cL_law 226 = .ok (.if_icmp .eq 1022, 3) := by decide +kernel
theorem dL_law_229 : decode cL_law 229 = .ok (.iconst 0, 1) := by decide +kernel
theorem dL_law_230 : decode cL_law 230 = .ok (.ireturn, 1) := by decide +kernel
theorem dL_law_231 : decode cL_law 231 = .ok (.aload_n 1, 1) := by decide +kernel
theorem dL_law_232 : decode cL_law 232 = .ok (.aload_n 0, 1) := by decide +kernel
theorem dL_law_233 : decode cL_law 233 = .ok (.iload_n 3, 1) := by decide +kernel
theorem dL_law_234 : decode cL_law 234 = .ok (.iconst 1, 1) := by decide +kernel
theorem dL_law_235 : decode cL_law 235 = .ok (.iadd, 1) := by decide +kernel
theorem dL_law_236 : decode cL_law 236 = .ok (.iaload, 1) := by decide +kernel
theorem dL_law_237 : decode cL_law 237 = .ok (.invokevirtual 18, 3) := by decide +kernel
theorem dL_law_240 : decode cL_law 240 = .ok (.aload_n 2, 1) := by decide +kernel
theorem dL_law_241 : decode cL_law 241 = .ok (.aload_n 0, 1) := by decide +kernel
theorem dL_law_242 : decode cL_law 242 = .ok (.iload_n 3, 1) := by decide +kernel
theorem dL_law_243 : decode cL_law 243 = .ok (.iconst 1, 1) := by decide +kernel
theorem dL_law_244 : decode cL_law 244 = .ok (.iadd, 1) := by decide +kernel
theorem dL_law_245 : decode cL_law 245 = .ok (.iaload, 1) := by decide +kernel
theorem dL_law_246 : decode cL_law 246 = .ok (.invokevirtual 22, 3) := by decide +kernel
theorem dL_law_249 : decode cL_law 249 = .ok (.if_icmp .eq 999, 3) := by decide +kernel
theorem dL_law_252 : decode cL_law 252 = .ok (.iconst 0, 1) := by decide +kernel
theorem dL_law_253 : decode cL_law 253 = .ok (.ireturn, 1) := by decide +kernel
theorem dL_law_254 : decode cL_law 254 = .ok (.aload_n 1, 1) := by decide +kernel
theorem dL_law_255 : decode cL_law 255 = .ok (.invokevirtual 23, 3) := by decide +kernel
theorem dL_law_258 : decode cL_law 258 = .ok (.aload_n 2, 1) := by decide +kernel
theorem dL_law_259 : decode cL_law 259 = .ok (.invokevirtual 27, 3) := by decide +kernel
theorem dL_law_262 : decode cL_law 262 = .ok (.if_icmp .eq 986, 3) := by decide +kernel
theorem dL_law_265 : decode cL_law 265 = .ok (.iconst 0, 1) := by decide +kernel
theorem dL_law_266 : decode cL_law 266 = .ok (.ireturn, 1) := by decide +kernel
theorem dL_law_267 : decode cL_law 267 = .ok (.aload_n 1, 1) := by decide +kernel
theorem dL_law_268 : decode cL_law 268 = .ok (.aload_n 0, 1) := by decide +kernel
theorem dL_law_269 : decode cL_law 269 = .ok (.iload_n 3, 1) := by decide +kernel
theorem dL_law_270 : decode cL_law 270 = .ok (.iconst 1, 1) := by decide +kernel
theorem dL_law_271 : decode cL_law 271 = .ok (.iadd, 1) := by decide +kernel
theorem dL_law_272 : decode cL_law 272 = .ok (.iaload, 1) := by decide +kernel
theorem dL_law_273 : decode cL_law 273 = .ok (.invokevirtual 28, 3) := by decide +kernel
theorem dL_law_276 : decode cL_law 276 = .ok (.aload_n 2, 1) := by decide +kernel
theorem dL_law_277 : decode cL_law 277 = .ok (.aload_n 0, 1) := by decide +kernel
theorem dL_law_278 : decode cL_law 278 = .ok (.iload_n 3, 1) := by decide +kernel
theorem dL_law_279 : decode cL_law 279 = .ok (.iconst 1, 1) := by decide +kernel
theorem dL_law_280 : decode cL_law 280 = .ok (.iadd, 1) := by decide +kernel
theorem dL_law_281 : decode cL_law 281 = .ok (.iaload, 1) := by decide +kernel
theorem dL_law_282 : decode cL_law 282 = .ok (.invokevirtual 31, 3) := by decide +kernel
theorem dL_law_285 : decode cL_law 285 = .ok (.if_icmp .eq 963, 3) := by decide +kernel
theorem dL_law_288 : decode cL_law 288 = .ok (.iconst 0, 1) := by decide +kernel
theorem dL_law_289 : decode cL_law 289 = .ok (.ireturn, 1) := by decide +kernel
theorem dL_law_290 : decode cL_law 290 = .ok (.aload_n 1, 1) := by decide +kernel
theorem dL_law_291 : decode cL_law 291 = .ok (.aload_n 0, 1) := by decide +kernel
theorem dL_law_292 : decode cL_law 292 = .ok (.iload_n 3, 1) := by decide +kernel
theorem dL_law_293 : decode cL_law 293 = .ok (.iconst 1, 1) := by decide +kernel
theorem dL_law_294 : decode cL_law 294 = .ok (.iadd, 1) := by decide +kernel
theorem dL_law_295 : decode cL_law 295 = .ok (.iaload, 1) := by decide +kernel
theorem dL_law_296 : decode cL_law 296 = .ok (.invokevirtual 32, 3) := by decide +kernel
theorem dL_law_299 : decode cL_law 299 = .ok (.aload_n 2, 1) := by decide +kernel
theorem dL_law_300 : decode cL_law 300 = .ok (.aload_n 0, 1) := by decide +kernel
theorem dL_law_301 : decode cL_law 301 = .ok (.iload_n 3, 1) := by decide +kernel
theorem dL_law_302 : decode cL_law 302 = .ok (.iconst 1, 1) := by decide +kernel
theorem dL_law_303 : decode cL_law 303 = .ok (.iadd, 1) := by decide +kernel
theorem dL_law_304 : decode cL_law 304 = .ok (.iaload, 1) := by decide +kernel
theorem dL_law_305 : decode cL_law 305 = .ok (.invokevirtual 36, 3) := by decide +kernel
theorem dL_law_308 : decode cL_law 308 = .ok (.if_icmp .eq 940, 3) := by decide +kernel
theorem dL_law_311 : decode cL_law 311 = .ok (.iconst 0, 1) := by decide +kernel
theorem dL_law_312 : decode cL_law 312 = .ok (.ireturn, 1) := by decide +kernel
theorem dL_law_313 : decode cL_law 313 = .ok (.aload_n 1, 1) := by decide +kernel
theorem dL_law_314 : decode cL_law 314 = .ok (.aload_n 0, 1) := by decide +kernel
theorem dL_law_315 : decode cL_law 315 = .ok (.iload_n 3, 1) := by decide +kernel
theorem dL_law_316 : decode cL_law 316 = .ok (.iconst 1, 1) := by decide +kernel
theorem dL_law_317 : decode cL_law 317 = .ok (.iadd, 1) := by decide +kernel
theorem dL_law_318 : decode cL_law 318 = .ok (.iaload, 1) := by decide +kernel
theorem dL_law_319 : decode cL_law 319 = .ok (.invokevirtual 37, 3) := by decide +kernel
theorem dL_law_322 : decode cL_law 322 = .ok (.aload_n 2, 1) := by decide +kernel
theorem dL_law_323 : decode cL_law 323 = .ok (.aload_n 0, 1) := by decide +kernel
theorem dL_law_324 : decode cL_law 324 = .ok (.iload_n 3, 1) := by decide +kernel
theorem dL_law_325 : decode cL_law 325 = .ok (.iconst 1, 1) := by decide +kernel
theorem dL_law_326 : decode cL_law 326 = .ok (.iadd, 1) := by decide +kernel
theorem dL_law_327 : decode cL_law 327 = .ok (.iaload, 1) := by decide +kernel
theorem dL_law_328 : decode cL_law 328 = .ok (.invokevirtual 40, 3) := by decide +kernel
theorem dL_law_331 : decode cL_law 331 = .ok (.if_icmp .eq 917, 3) := by decide +kernel
theorem dL_law_334 : decode cL_law 334 = .ok (.iconst 0, 1) := by decide +kernel
theorem dL_law_335 : decode cL_law 335 = .ok (.ireturn, 1) := by decide +kernel
theorem dL_law_336 : decode cL_law 336 = .ok (.aload_n 1, 1) := by decide +kernel
theorem dL_law_337 : decode cL_law 337 = .ok (.aload_n 0, 1) := by decide +kernel
theorem dL_law_338 : decode cL_law 338 = .ok (.iload_n 3, 1) := by decide +kernel
theorem dL_law_339 : decode cL_law 339 = .ok (.iconst 1, 1) := by decide +kernel
theorem dL_law_340 : decode cL_law 340 = .ok (.iadd, 1) := by decide +kernel
theorem dL_law_341 : decode cL_law 341 = .ok (.iaload, 1) := by decide +kernel
theorem dL_law_342 : decode cL_law 342 = .ok (.aload_n 0, 1) := by decide +kernel
theorem dL_law_343 : decode cL_law 343 = .ok (.iload_n 3, 1) := by decide +kernel
theorem dL_law_344 : decode cL_law 344 = .ok (.iconst 2, 1) := by decide +kernel
theorem dL_law_345 : decode cL_law 345 = .ok (.iadd, 1) := by decide +kernel
theorem dL_law_346 : decode cL_law 346 = .ok (.iaload, 1) := by decide +kernel
theorem dL_law_347 : decode cL_law 347 = .ok (.invokevirtual 41, 3) := by decide +kernel
theorem dL_law_350 : decode cL_law 350 = .ok (.aload_n 2, 1) := by decide +kernel
theorem dL_law_351 : decode cL_law 351 = .ok (.aload_n 0, 1) := by decide +kernel
theorem dL_law_352 : decode cL_law 352 = .ok (.iload_n 3, 1) := by decide +kernel
theorem dL_law_353 : decode cL_law 353 = .ok (.iconst 1, 1) := by decide +kernel
theorem dL_law_354 : decode cL_law 354 = .ok (.iadd, 1) := by decide +kernel
theorem dL_law_355 : decode cL_law 355 = .ok (.iaload, 1) := by decide +kernel
theorem dL_law_356 : decode cL_law 356 = .ok (.aload_n 0, 1) := by decide +kernel
theorem dL_law_357 : decode cL_law 357 = .ok (.iload_n 3, 1) := by decide +kernel
theorem dL_law_358 : decode cL_law 358 = .ok (.iconst 2, 1) := by decide +kernel
theorem dL_law_359 : decode cL_law 359 = .ok (.iadd, 1) := by decide +kernel
theorem dL_law_360 : decode cL_law 360 = .ok (.iaload, 1) := by decide +kernel
theorem dL_law_361 : decode cL_law 361 = .ok (.invokevirtual 45, 3) := by decide +kernel
theorem dL_law_364 : decode cL_law 364 = .ok (.if_icmp .eq 884, 3) := by decide +kernel
theorem dL_law_367 : decode cL_law 367 = .ok (.iconst 0, 1) := by decide +kernel
theorem dL_law_368 : decode cL_law 368 = .ok (.ireturn, 1) := by decide +kernel
theorem dL_law_369 : decode cL_law 369 = .ok (.aload_n 1, 1) := by decide +kernel
theorem dL_law_370 : decode cL_law 370 = .ok (.aload_n 0, 1) := by decide +kernel
theorem dL_law_371 : decode cL_law 371 = .ok (.iload_n 3, 1) := by decide +kernel
theorem dL_law_372 : decode cL_law 372 = .ok (.iconst 1, 1) := by decide +kernel
theorem dL_law_373 : decode cL_law 373 = .ok (.iadd, 1) := by decide +kernel
theorem dL_law_374 : decode cL_law 374 = .ok (.iaload, 1) := by decide +kernel
theorem dL_law_375 : decode cL_law 375 = .ok (.aload_n 0, 1) := by decide +kernel
theorem dL_law_376 : decode cL_law 376 = .ok (.iload_n 3, 1) := by decide +kernel
theorem dL_law_377 : decode cL_law 377 = .ok (.iconst 2, 1) := by decide +kernel
theorem dL_law_378 : decode cL_law 378 = .ok (.iadd, 1) := by decide +kernel
theorem dL_law_379 : decode cL_law 379 = .ok (.iaload, 1) := by decide +kernel
theorem dL_law_380 : decode cL_law 380 = .ok (.aload_n 0, 1) := by decide +kernel
theorem dL_law_381 : decode cL_law 381 = .ok (.iload_n 3, 1) := by decide +kernel
theorem dL_law_382 : decode cL_law 382 = .ok (.iconst 3, 1) := by decide +kernel
theorem dL_law_383 : decode cL_law 383 = .ok (.iadd, 1) := by decide +kernel
theorem dL_law_384 : decode cL_law 384 = .ok (.iaload, 1) := by decide +kernel
theorem dL_law_385 : decode cL_law 385 = .ok (.ifCond .eq 7, 3) := by decide +kernel
theorem dL_law_388 : decode cL_law 388 = .ok (.iconst 1, 1) := by decide +kernel
theorem dL_law_389 : decode cL_law 389 = .ok (.goto 4, 3) := by decide +kernel
theorem dL_law_392 : decode cL_law 392 = .ok (.iconst 0, 1) := by decide +kernel
theorem dL_law_393 : decode cL_law 393 = .ok (.invokevirtual 46, 3) := by decide +kernel
theorem dL_law_396 : decode cL_law 396 = .ok (.aload_n 2, 1) := by decide +kernel
theorem dL_law_397 : decode cL_law 397 = .ok (.aload_n 0, 1) := by decide +kernel
theorem dL_law_398 : decode cL_law 398 = .ok (.iload_n 3, 1) := by decide +kernel
theorem dL_law_399 : decode cL_law 399 = .ok (.iconst 1, 1) := by decide +kernel
theorem dL_law_400 : decode cL_law 400 = .ok (.iadd, 1) := by decide +kernel
theorem dL_law_401 : decode cL_law 401 = .ok (.iaload, 1) := by decide +kernel
theorem dL_law_402 : decode cL_law 402 = .ok (.aload_n 0, 1) := by decide +kernel
theorem dL_law_403 : decode cL_law 403 = .ok (.iload_n 3, 1) := by decide +kernel
theorem dL_law_404 : decode cL_law 404 = .ok (.iconst 2, 1) := by decide +kernel
theorem dL_law_405 : decode cL_law 405 = .ok (.iadd, 1) := by decide +kernel
theorem dL_law_406 : decode cL_law 406 = .ok (.iaload, 1) := by decide +kernel
theorem dL_law_407 : decode cL_law 407 = .ok (.aload_n 0, 1) := by decide +kernel
theorem dL_law_408 : decode cL_law 408 = .ok (.iload_n 3, 1) := by decide +kernel
theorem dL_law_409 : decode cL_law 409 = .ok (.iconst 3, 1) := by decide +kernel
theorem dL_law_410 : decode cL_law 410 = .ok (.iadd, 1) := by decide +kernel
theorem dL_law_411 : decode cL_law 411 = .ok (.iaload, 1) := by decide +kernel
theorem dL_law_412 : decode cL_law 412 = .ok (.ifCond .eq 7, 3) := by decide +kernel
theorem dL_law_415 : decode cL_law 415 = .ok (.iconst 1, 1) := by decide +kernel
theorem dL_law_416 : decode cL_law 416 = .ok (.goto 4, 3) := by decide +kernel
theorem dL_law_419 : decode cL_law 419 = .ok (.iconst 0, 1) := by decide +kernel
theorem dL_law_420 : decode cL_law 420 = .ok (.invokevirtual 50, 3) := by decide +kernel
theorem dL_law_423 : decode cL_law 423 = .ok (.if_icmp .eq 825, 3) := by decide +kernel
theorem dL_law_426 : decode cL_law 426 = .ok (.iconst 0, 1) := by decide +kernel
theorem dL_law_427 : decode cL_law 427 = .ok (.ireturn, 1) := by decide +kernel
theorem dL_law_428 : decode cL_law 428 = .ok (.aload_n 1, 1) := by decide +kernel
theorem dL_law_429 : decode cL_law 429 = .ok (.aload_n 0, 1) := by decide +kernel
theorem dL_law_430 : decode cL_law 430 = .ok (.iload_n 3, 1) := by decide +kernel
theorem dL_law_431 : decode cL_law 431 = .ok (.iconst 1, 1) := by decide +kernel
theorem dL_law_432 : decode cL_law 432 = .ok (.iadd, 1) := by decide +kernel
theorem dL_law_433 : decode cL_law 433 = .ok (.iaload, 1) := by decide +kernel
theorem dL_law_434 : decode cL_law 434 = .ok (.invokevirtual 51, 3) := by decide +kernel
theorem dL_law_437 : decode cL_law 437 = .ok (.aload_n 2, 1) := by decide +kernel
theorem dL_law_438 : decode cL_law 438 = .ok (.aload_n 0, 1) := by decide +kernel
theorem dL_law_439 : decode cL_law 439 = .ok (.iload_n 3, 1) := by decide +kernel
theorem dL_law_440 : decode cL_law 440 = .ok (.iconst 1, 1) := by decide +kernel
theorem dL_law_441 : decode cL_law 441 = .ok (.iadd, 1) := by decide +kernel
theorem dL_law_442 : decode cL_law 442 = .ok (.iaload, 1) := by decide +kernel
theorem dL_law_443 : decode cL_law 443 = .ok (.invokevirtual 54, 3) := by decide +kernel
theorem dL_law_446 : decode cL_law 446 = .ok (.if_icmp .eq 802, 3) := by decide +kernel
theorem dL_law_449 : decode cL_law 449 = .ok (.iconst 0, 1) := by decide +kernel
theorem dL_law_450 : decode cL_law 450 = .ok (.ireturn, 1) := by decide +kernel
theorem dL_law_451 : decode cL_law 451 = .ok (.aload_n 1, 1) := by decide +kernel
theorem dL_law_452 : decode cL_law 452 = .ok (.aload_n 0, 1) := by decide +kernel
theorem dL_law_453 : decode cL_law 453 = .ok (.iload_n 3, 1) := by decide +kernel
theorem dL_law_454 : decode cL_law 454 = .ok (.iconst 1, 1) := by decide +kernel
theorem dL_law_455 : decode cL_law 455 = .ok (.iadd, 1) := by decide +kernel
theorem dL_law_456 : decode cL_law 456 = .ok (.iaload, 1) := by decide +kernel
theorem dL_law_457 : decode cL_law 457 = .ok (.aload_n 0, 1) := by decide +kernel
theorem dL_law_458 : decode cL_law 458 = .ok (.iload_n 3, 1) := by decide +kernel
theorem dL_law_459 : decode cL_law 459 = .ok (.iconst 2, 1) := by decide +kernel
theorem dL_law_460 : decode cL_law 460 = .ok (.iadd, 1) := by decide +kernel
theorem dL_law_461 : decode cL_law 461 = .ok (.iaload, 1) := by decide +kernel
theorem dL_law_462 : decode cL_law 462 = .ok (.aload_n 0, 1) := by decide +kernel
theorem dL_law_463 : decode cL_law 463 = .ok (.iload_n 3, 1) := by decide +kernel
theorem dL_law_464 : decode cL_law 464 = .ok (.iconst 3, 1) := by decide +kernel
theorem dL_law_465 : decode cL_law 465 = .ok (.iadd, 1) := by decide +kernel
theorem dL_law_466 : decode cL_law 466 = .ok (.iaload, 1) := by decide +kernel
theorem dL_law_467 : decode cL_law 467 = .ok (.aload_n 0, 1) := by decide +kernel
theorem dL_law_468 : decode cL_law 468 = .ok (.iload_n 3, 1) := by decide +kernel
theorem dL_law_469 : decode cL_law 469 = .ok (.iconst 4, 1) := by decide +kernel
theorem dL_law_470 : decode cL_law 470 = .ok (.iadd, 1) := by decide +kernel
theorem dL_law_471 : decode cL_law 471 = .ok (.iaload, 1) := by decide +kernel
theorem dL_law_472 : decode cL_law 472 = .ok (.invokevirtual 55, 3) := by decide +kernel
theorem dL_law_475 : decode cL_law 475 = .ok (.aload_n 2, 1) := by decide +kernel
theorem dL_law_476 : decode cL_law 476 = .ok (.aload_n 0, 1) := by decide +kernel
theorem dL_law_477 : decode cL_law 477 = .ok (.iload_n 3, 1) := by decide +kernel
theorem dL_law_478 : decode cL_law 478 = .ok (.iconst 1, 1) := by decide +kernel
theorem dL_law_479 : decode cL_law 479 = .ok (.iadd, 1) := by decide +kernel
theorem dL_law_480 : decode cL_law 480 = .ok (.iaload, 1) := by decide +kernel
theorem dL_law_481 : decode cL_law 481 = .ok (.aload_n 0, 1) := by decide +kernel
theorem dL_law_482 : decode cL_law 482 = .ok (.iload_n 3, 1) := by decide +kernel
theorem dL_law_483 : decode cL_law 483 = .ok (.iconst 2, 1) := by decide +kernel
theorem dL_law_484 : decode cL_law 484 = .ok (.iadd, 1) := by decide +kernel
theorem dL_law_485 : decode cL_law 485 = .ok (.iaload, 1) := by decide +kernel
theorem dL_law_486 : decode cL_law 486 = .ok (.aload_n 0, 1) := by decide +kernel
theorem dL_law_487 : decode cL_law 487 = .ok (.iload_n 3, 1) := by decide +kernel
theorem dL_law_488 : decode cL_law 488 = .ok (.iconst 3, 1) := by decide +kernel
theorem dL_law_489 : decode cL_law 489 = .ok (.iadd, 1) := by decide +kernel
theorem dL_law_490 : decode cL_law 490 = .ok (.iaload, 1) := by decide +kernel
theorem dL_law_491 : decode cL_law 491 = .ok (.aload_n 0, 1) := by decide +kernel
theorem dL_law_492 : decode cL_law 492 = .ok (.iload_n 3, 1) := by decide +kernel
theorem dL_law_493 : decode cL_law 493 = .ok (.iconst 4, 1) := by decide +kernel
theorem dL_law_494 : decode cL_law 494 = .ok (.iadd, 1) := by decide +kernel
theorem dL_law_495 : decode cL_law 495 = .ok (.iaload, 1) := by decide +kernel
theorem dL_law_496 : decode cL_law 496 = .ok (.invokevirtual 59, 3) := by decide +kernel
theorem dL_law_499 : decode cL_law 499 = .ok (.if_icmp .eq 749, 3) := by decide +kernel
theorem dL_law_502 : decode cL_law 502 = .ok (.iconst 0, 1) := by decide +kernel
theorem dL_law_503 : decode cL_law 503 = .ok (.ireturn, 1) := by decide +kernel
theorem dL_law_504 : decode cL_law 504 = .ok (.aload_n 1, 1) := by decide +kernel
theorem dL_law_505 : decode cL_law 505 = .ok (.aload_n 0, 1) := by decide +kernel
theorem dL_law_506 : decode cL_law 506 = .ok (.iload_n 3, 1) := by decide +kernel
theorem dL_law_507 : decode cL_law 507 = .ok (.iconst 1, 1) := by decide +kernel
theorem dL_law_508 : decode cL_law 508 = .ok (.iadd, 1) := by decide +kernel
theorem dL_law_509 : decode cL_law 509 = .ok (.iaload, 1) := by decide +kernel
theorem dL_law_510 : decode cL_law 510 = .ok (.aload_n 0, 1) := by decide +kernel
theorem dL_law_511 : decode cL_law 511 = .ok (.iload_n 3, 1) := by decide +kernel
theorem dL_law_512 : decode cL_law 512 = .ok (.iconst 2, 1) := by decide +kernel
theorem dL_law_513 : decode cL_law 513 = .ok (.iadd, 1) := by decide +kernel
theorem dL_law_514 : decode cL_law 514 = .ok (.iaload, 1) := by decide +kernel
theorem dL_law_515 : decode cL_law 515 = .ok (.aload_n 0, 1) := by decide +kernel
theorem dL_law_516 : decode cL_law 516 = .ok (.iload_n 3, 1) := by decide +kernel
theorem dL_law_517 : decode cL_law 517 = .ok (.iconst 3, 1) := by decide +kernel
theorem dL_law_518 : decode cL_law 518 = .ok (.iadd, 1) := by decide +kernel
theorem dL_law_519 : decode cL_law 519 = .ok (.iaload, 1) := by decide +kernel
theorem dL_law_520 : decode cL_law 520 = .ok (.invokevirtual 60, 3) := by decide +kernel
theorem dL_law_523 : decode cL_law 523 = .ok (.aload_n 2, 1) := by decide +kernel
theorem dL_law_524 : decode cL_law 524 = .ok (.aload_n 0, 1) := by decide +kernel
theorem dL_law_525 : decode cL_law 525 = .ok (.iload_n 3, 1) := by decide +kernel
theorem dL_law_526 : decode cL_law 526 = .ok (.iconst 1, 1) := by decide +kernel
theorem dL_law_527 : decode cL_law 527 = .ok (.iadd, 1) := by decide +kernel
theorem dL_law_528 : decode cL_law 528 = .ok (.iaload, 1) := by decide +kernel
theorem dL_law_529 : decode cL_law 529 = .ok (.aload_n 0, 1) := by decide +kernel
theorem dL_law_530 : decode cL_law 530 = .ok (.iload_n 3, 1) := by decide +kernel
theorem dL_law_531 : decode cL_law 531 = .ok (.iconst 2, 1) := by decide +kernel
theorem dL_law_532 : decode cL_law 532 = .ok (.iadd, 1) := by decide +kernel
theorem dL_law_533 : decode cL_law 533 = .ok (.iaload, 1) := by decide +kernel
theorem dL_law_534 : decode cL_law 534 = .ok (.aload_n 0, 1) := by decide +kernel
theorem dL_law_535 : decode cL_law 535 = .ok (.iload_n 3, 1) := by decide +kernel
theorem dL_law_536 : decode cL_law 536 = .ok (.iconst 3, 1) := by decide +kernel
theorem dL_law_537 : decode cL_law 537 = .ok (.iadd, 1) := by decide +kernel
theorem dL_law_538 : decode cL_law 538 = .ok (.iaload, 1) := by decide +kernel
theorem dL_law_539 : decode cL_law 539 = .ok (.invokevirtual 64, 3) := by decide +kernel
theorem dL_law_542 : decode cL_law 542 = .ok (.if_icmp .eq 706, 3) := by decide +kernel
theorem dL_law_545 : decode cL_law 545 = .ok (.iconst 0, 1) := by decide +kernel
theorem dL_law_546 : decode cL_law 546 = .ok (.ireturn, 1) := by decide +kernel
theorem dL_law_547 : decode cL_law 547 = .ok (.aload_n 1, 1) := by decide +kernel
theorem dL_law_548 : decode cL_law 548 = .ok (.aload_n 0, 1) := by decide +kernel
theorem dL_law_549 : decode cL_law 549 = .ok (.iload_n 3, 1) := by decide +kernel
theorem dL_law_550 : decode cL_law 550 = .ok (.iconst 1, 1) := by decide +kernel
theorem dL_law_551 : decode cL_law 551 = .ok (.iadd, 1) := by decide +kernel
theorem dL_law_552 : decode cL_law 552 = .ok (.iaload, 1) := by decide +kernel
theorem dL_law_553 : decode cL_law 553 = .ok (.aload_n 0, 1) := by decide +kernel
theorem dL_law_554 : decode cL_law 554 = .ok (.iload_n 3, 1) := by decide +kernel
theorem dL_law_555 : decode cL_law 555 = .ok (.iconst 2, 1) := by decide +kernel
theorem dL_law_556 : decode cL_law 556 = .ok (.iadd, 1) := by decide +kernel
theorem dL_law_557 : decode cL_law 557 = .ok (.iaload, 1) := by decide +kernel
theorem dL_law_558 : decode cL_law 558 = .ok (.aload_n 0, 1) := by decide +kernel
theorem dL_law_559 : decode cL_law 559 = .ok (.iload_n 3, 1) := by decide +kernel
theorem dL_law_560 : decode cL_law 560 = .ok (.iconst 3, 1) := by decide +kernel
theorem dL_law_561 : decode cL_law 561 = .ok (.iadd, 1) := by decide +kernel
theorem dL_law_562 : decode cL_law 562 = .ok (.iaload, 1) := by decide +kernel
theorem dL_law_563 : decode cL_law 563 = .ok (.invokevirtual 65, 3) := by decide +kernel
theorem dL_law_566 : decode cL_law 566 = .ok (.aload_n 2, 1) := by decide +kernel
theorem dL_law_567 : decode cL_law 567 = .ok (.aload_n 0, 1) := by decide +kernel
theorem dL_law_568 : decode cL_law 568 = .ok (.iload_n 3, 1) := by decide +kernel
theorem dL_law_569 : decode cL_law 569 = .ok (.iconst 1, 1) := by decide +kernel
theorem dL_law_570 : decode cL_law 570 = .ok (.iadd, 1) := by decide +kernel
theorem dL_law_571 : decode cL_law 571 = .ok (.iaload, 1) := by decide +kernel
theorem dL_law_572 : decode cL_law 572 = .ok (.aload_n 0, 1) := by decide +kernel
theorem dL_law_573 : decode cL_law 573 = .ok (.iload_n 3, 1) := by decide +kernel
theorem dL_law_574 : decode cL_law 574 = .ok (.iconst 2, 1) := by decide +kernel
theorem dL_law_575 : decode cL_law 575 = .ok (.iadd, 1) := by decide +kernel
theorem dL_law_576 : decode cL_law 576 = .ok (.iaload, 1) := by decide +kernel
theorem dL_law_577 : decode cL_law 577 = .ok (.aload_n 0, 1) := by decide +kernel
theorem dL_law_578 : decode cL_law 578 = .ok (.iload_n 3, 1) := by decide +kernel
theorem dL_law_579 : decode cL_law 579 = .ok (.iconst 3, 1) := by decide +kernel
theorem dL_law_580 : decode cL_law 580 = .ok (.iadd, 1) := by decide +kernel
theorem dL_law_581 : decode cL_law 581 = .ok (.iaload, 1) := by decide +kernel
theorem dL_law_582 : decode cL_law 582 = .ok (.invokevirtual 69, 3) := by decide +kernel
theorem dL_law_585 : decode cL_law 585 = .ok (.if_icmp .eq 663, 3) := by decide +kernel
theorem dL_law_588 : decode cL_law 588 = .ok (.iconst 0, 1) := by decide +kernel
theorem dL_law_589 : decode cL_law 589 = .ok (.ireturn, 1) := by decide +kernel
theorem dL_law_590 : decode cL_law 590 = .ok (.aload_n 1, 1) := by decide +kernel
theorem dL_law_591 : decode cL_law 591 = .ok (.aload_n 0, 1) := by decide +kernel
theorem dL_law_592 : decode cL_law 592 = .ok (.iload_n 3, 1) := by decide +kernel
theorem dL_law_593 : decode cL_law 593 = .ok (.iconst 1, 1) := by decide +kernel
theorem dL_law_594 : decode cL_law 594 = .ok (.iadd, 1) := by decide +kernel
theorem dL_law_595 : decode cL_law 595 = .ok (.iaload, 1) := by decide +kernel
theorem dL_law_596 : decode cL_law 596 = .ok (.aload_n 0, 1) := by decide +kernel
theorem dL_law_597 : decode cL_law 597 = .ok (.iload_n 3, 1) := by decide +kernel
theorem dL_law_598 : decode cL_law 598 = .ok (.iconst 2, 1) := by decide +kernel
theorem dL_law_599 : decode cL_law 599 = .ok (.iadd, 1) := by decide +kernel
theorem dL_law_600 : decode cL_law 600 = .ok (.iaload, 1) := by decide +kernel
theorem dL_law_601 : decode cL_law 601 = .ok (.aload_n 0, 1) := by decide +kernel
theorem dL_law_602 : decode cL_law 602 = .ok (.iload_n 3, 1) := by decide +kernel
theorem dL_law_603 : decode cL_law 603 = .ok (.iconst 3, 1) := by decide +kernel
theorem dL_law_604 : decode cL_law 604 = .ok (.iadd, 1) := by decide +kernel
theorem dL_law_605 : decode cL_law 605 = .ok (.iaload, 1) := by decide +kernel
theorem dL_law_606 : decode cL_law 606 = .ok (.invokevirtual 70, 3) := by decide +kernel
theorem dL_law_609 : decode cL_law 609 = .ok (.aload_n 2, 1) := by decide +kernel
theorem dL_law_610 : decode cL_law 610 = .ok (.aload_n 0, 1) := by decide +kernel
theorem dL_law_611 : decode cL_law 611 = .ok (.iload_n 3, 1) := by decide +kernel
theorem dL_law_612 : decode cL_law 612 = .ok (.iconst 1, 1) := by decide +kernel
theorem dL_law_613 : decode cL_law 613 = .ok (.iadd, 1) := by decide +kernel
theorem dL_law_614 : decode cL_law 614 = .ok (.iaload, 1) := by decide +kernel
theorem dL_law_615 : decode cL_law 615 = .ok (.aload_n 0, 1) := by decide +kernel
theorem dL_law_616 : decode cL_law 616 = .ok (.iload_n 3, 1) := by decide +kernel
theorem dL_law_617 : decode cL_law 617 = .ok (.iconst 2, 1) := by decide +kernel
theorem dL_law_618 : decode cL_law 618 = .ok (.iadd, 1) := by decide +kernel
theorem dL_law_619 : decode cL_law 619 = .ok (.iaload, 1) := by decide +kernel
theorem dL_law_620 : decode cL_law 620 = .ok (.aload_n 0, 1) := by decide +kernel
theorem dL_law_621 : decode cL_law 621 = .ok (.iload_n 3, 1) := by decide +kernel
theorem dL_law_622 : decode cL_law 622 = .ok (.iconst 3, 1) := by decide +kernel
theorem dL_law_623 : decode cL_law 623 = .ok (.iadd, 1) := by decide +kernel
theorem dL_law_624 : decode cL_law 624 = .ok (.iaload, 1) := by decide +kernel
theorem dL_law_625 : decode cL_law 625 = .ok (.invokevirtual 73, 3) := by decide +kernel
theorem dL_law_628 : decode cL_law 628 = .ok (.if_icmp .eq 620, 3) := by decide +kernel
theorem dL_law_631 : decode cL_law 631 = .ok (.iconst 0, 1) := by decide +kernel
theorem dL_law_632 : decode cL_law 632 = .ok (.ireturn, 1) := by decide +kernel
theorem dL_law_633 : decode cL_law 633 = .ok (.aload_n 1, 1) := by decide +kernel
theorem dL_law_634 : decode cL_law 634 = .ok (.aload_n 0, 1) := by decide +kernel
theorem dL_law_635 : decode cL_law 635 = .ok (.iload_n 3, 1) := by decide +kernel
theorem dL_law_636 : decode cL_law 636 = .ok (.iconst 1, 1) := by decide +kernel
theorem dL_law_637 : decode cL_law 637 = .ok (.iadd, 1) := by decide +kernel
theorem dL_law_638 : decode cL_law 638 = .ok (.iaload, 1) := by decide +kernel
theorem dL_law_639 : decode cL_law 639 = .ok (.aload_n 0, 1) := by decide +kernel
theorem dL_law_640 : decode cL_law 640 = .ok (.iload_n 3, 1) := by decide +kernel
theorem dL_law_641 : decode cL_law 641 = .ok (.iconst 2, 1) := by decide +kernel
theorem dL_law_642 : decode cL_law 642 = .ok (.iadd, 1) := by decide +kernel
theorem dL_law_643 : decode cL_law 643 = .ok (.iaload, 1) := by decide +kernel
theorem dL_law_644 : decode cL_law 644 = .ok (.aload_n 0, 1) := by decide +kernel
theorem dL_law_645 : decode cL_law 645 = .ok (.iload_n 3, 1) := by decide +kernel
theorem dL_law_646 : decode cL_law 646 = .ok (.iconst 3, 1) := by decide +kernel
theorem dL_law_647 : decode cL_law 647 = .ok (.iadd, 1) := by decide +kernel
theorem dL_law_648 : decode cL_law 648 = .ok (.iaload, 1) := by decide +kernel
theorem dL_law_649 : decode cL_law 649 = .ok (.aload_n 0, 1) := by decide +kernel
theorem dL_law_650 : decode cL_law 650 = .ok (.iload_n 3, 1) := by decide +kernel
theorem dL_law_651 : decode cL_law 651 = .ok (.iconst 4, 1) := by decide +kernel
theorem dL_law_652 : decode cL_law 652 = .ok (.iadd, 1) := by decide +kernel
theorem dL_law_653 : decode cL_law 653 = .ok (.iaload, 1) := by decide +kernel
theorem dL_law_654 : decode cL_law 654 = .ok (.ifCond .eq 7, 3) := by decide +kernel
theorem dL_law_657 : decode cL_law 657 = .ok (.iconst 1, 1) := by decide +kernel
theorem dL_law_658 : decode cL_law 658 = .ok (.goto 4, 3) := by decide +kernel
theorem dL_law_661 : decode cL_law 661 = .ok (.iconst 0, 1) := by decide +kernel
theorem dL_law_662 : decode cL_law 662 = .ok (.invokevirtual 74, 3) := by decide +kernel
theorem dL_law_665 : decode cL_law 665 = .ok (.aload_n 2, 1) := by decide +kernel
theorem dL_law_666 : decode cL_law 666 = .ok (.aload_n 0, 1) := by decide +kernel
theorem dL_law_667 : decode cL_law 667 = .ok (.iload_n 3, 1) := by decide +kernel
theorem dL_law_668 : decode cL_law 668 = .ok (.iconst 1, 1) := by decide +kernel
theorem dL_law_669 : decode cL_law 669 = .ok (.iadd, 1) := by decide +kernel
theorem dL_law_670 : decode cL_law 670 = .ok (.iaload, 1) := by decide +kernel
theorem dL_law_671 : decode cL_law 671 = .ok (.aload_n 0, 1) := by decide +kernel
theorem dL_law_672 : decode cL_law 672 = .ok (.iload_n 3, 1) := by decide +kernel
theorem dL_law_673 : decode cL_law 673 = .ok (.iconst 2, 1) := by decide +kernel
theorem dL_law_674 : decode cL_law 674 = .ok (.iadd, 1) := by decide +kernel
theorem dL_law_675 : decode cL_law 675 = .ok (.iaload, 1) := by decide +kernel
theorem dL_law_676 : decode cL_law 676 = .ok (.aload_n 0, 1) := by decide +kernel
theorem dL_law_677 : decode cL_law 677 = .ok (.iload_n 3, 1) := by decide +kernel
theorem dL_law_678 : decode cL_law 678 = .ok (.iconst 3, 1) := by decide +kernel
theorem dL_law_679 : decode cL_law 679 = .ok (.iadd, 1) := by decide +kernel
theorem dL_law_680 : decode cL_law 680 = .ok (.iaload, 1) := by decide +kernel
theorem dL_law_681 : decode cL_law 681 = .ok (.aload_n 0, 1) := by decide +kernel
theorem dL_law_682 : decode cL_law 682 = .ok (.iload_n 3, 1) := by decide +kernel
theorem dL_law_683 : decode cL_law 683 = .ok (.iconst 4, 1) := by decide +kernel
theorem dL_law_684 : decode cL_law 684 = .ok (.iadd, 1) := by decide +kernel
theorem dL_law_685 : decode cL_law 685 = .ok (.iaload, 1) := by decide +kernel
theorem dL_law_686 : decode cL_law 686 = .ok (.ifCond .eq 7, 3) := by decide +kernel
theorem dL_law_689 : decode cL_law 689 = .ok (.iconst 1, 1) := by decide +kernel
theorem dL_law_690 : decode cL_law 690 = .ok (.goto 4, 3) := by decide +kernel
theorem dL_law_693 : decode cL_law 693 = .ok (.iconst 0, 1) := by decide +kernel
theorem dL_law_694 : decode cL_law 694 = .ok (.invokevirtual 78, 3) := by decide +kernel
theorem dL_law_697 : decode cL_law 697 = .ok (.if_icmp .eq 551, 3) := by decide +kernel
theorem dL_law_700 : decode cL_law 700 = .ok (.iconst 0, 1) := by decide +kernel
theorem dL_law_701 : decode cL_law 701 = .ok (.ireturn, 1) := by decide +kernel
theorem dL_law_702 : decode cL_law 702 = .ok (.aload_n 1, 1) := by decide +kernel
theorem dL_law_703 : decode cL_law 703 = .ok (.aload_n 0, 1) := by decide +kernel
theorem dL_law_704 : decode cL_law 704 = .ok (.iload_n 3, 1) := by decide +kernel
theorem dL_law_705 : decode cL_law 705 = .ok (.iconst 1, 1) := by decide +kernel
theorem dL_law_706 : decode cL_law 706 = .ok (.iadd, 1) := by decide +kernel
theorem dL_law_707 : decode cL_law 707 = .ok (.iaload, 1) := by decide +kernel
theorem dL_law_708 : decode cL_law 708 = .ok (.aload_n 0, 1) := by decide +kernel
theorem dL_law_709 : decode cL_law 709 = .ok (.iload_n 3, 1) := by decide +kernel
theorem dL_law_710 : decode cL_law 710 = .ok (.iconst 2, 1) := by decide +kernel
theorem dL_law_711 : decode cL_law 711 = .ok (.iadd, 1) := by decide +kernel
theorem dL_law_712 : decode cL_law 712 = .ok (.iaload, 1) := by decide +kernel
theorem dL_law_713 : decode cL_law 713 = .ok (.aload_n 0, 1) := by decide +kernel
theorem dL_law_714 : decode cL_law 714 = .ok (.iload_n 3, 1) := by decide +kernel
theorem dL_law_715 : decode cL_law 715 = .ok (.iconst 3, 1) := by decide +kernel
theorem dL_law_716 : decode cL_law 716 = .ok (.iadd, 1) := by decide +kernel
theorem dL_law_717 : decode cL_law 717 = .ok (.iaload, 1) := by decide +kernel
theorem dL_law_718 : decode cL_law 718 = .ok (.ifCond .eq 7, 3) := by decide +kernel
theorem dL_law_721 : decode cL_law 721 = .ok (.iconst 1, 1) := by decide +kernel
theorem dL_law_722 : decode cL_law 722 = .ok (.goto 4, 3) := by decide +kernel
theorem dL_law_725 : decode cL_law 725 = .ok (.iconst 0, 1) := by decide +kernel
theorem dL_law_726 : decode cL_law 726 = .ok (.invokevirtual 79, 3) := by decide +kernel
theorem dL_law_729 : decode cL_law 729 = .ok (.aload_n 2, 1) := by decide +kernel
theorem dL_law_730 : decode cL_law 730 = .ok (.aload_n 0, 1) := by decide +kernel
theorem dL_law_731 : decode cL_law 731 = .ok (.iload_n 3, 1) := by decide +kernel
theorem dL_law_732 : decode cL_law 732 = .ok (.iconst 1, 1) := by decide +kernel
theorem dL_law_733 : decode cL_law 733 = .ok (.iadd, 1) := by decide +kernel
theorem dL_law_734 : decode cL_law 734 = .ok (.iaload, 1) := by decide +kernel
theorem dL_law_735 : decode cL_law 735 = .ok (.aload_n 0, 1) := by decide +kernel
theorem dL_law_736 : decode cL_law 736 = .ok (.iload_n 3, 1) := by decide +kernel
theorem dL_law_737 : decode cL_law 737 = .ok (.iconst 2, 1) := by decide +kernel
theorem dL_law_738 : decode cL_law 738 = .ok (.iadd, 1) := by decide +kernel
theorem dL_law_739 : decode cL_law 739 = .ok (.iaload, 1) := by decide +kernel
theorem dL_law_740 : decode cL_law 740 = .ok (.aload_n 0, 1) := by decide +kernel
theorem dL_law_741 : decode cL_law 741 = .ok (.iload_n 3, 1) := by decide +kernel
theorem dL_law_742 : decode cL_law 742 = .ok (.iconst 3, 1) := by decide +kernel
theorem dL_law_743 : decode cL_law 743 = .ok (.iadd, 1) := by decide +kernel
theorem dL_law_744 : decode cL_law 744 = .ok (.iaload, 1) := by decide +kernel
theorem dL_law_745 : decode cL_law 745 = .ok (.ifCond .eq 7, 3) := by decide +kernel
theorem dL_law_748 : decode cL_law 748 = .ok (.iconst 1, 1) := by decide +kernel
theorem dL_law_749 : decode cL_law 749 = .ok (.goto 4, 3) := by decide +kernel
theorem dL_law_752 : decode cL_law 752 = .ok (.iconst 0, 1) := by decide +kernel
theorem dL_law_753 : decode cL_law 753 = .ok (.invokevirtual 83, 3) := by decide +kernel
theorem dL_law_756 : decode cL_law 756 = .ok (.lcmp, 1) := by decide +kernel
theorem dL_law_757 : decode cL_law 757 = .ok (.ifCond .eq 491, 3) := by decide +kernel
theorem dL_law_760 : decode cL_law 760 = .ok (.iconst 0, 1) := by decide +kernel
theorem dL_law_761 : decode cL_law 761 = .ok (.ireturn, 1) := by decide +kernel
theorem dL_law_762 : decode cL_law 762 = .ok (.aload_n 1, 1) := by decide +kernel
theorem dL_law_763 : decode cL_law 763 = .ok (.aload_n 0, 1) := by decide +kernel
theorem dL_law_764 : decode cL_law 764 = .ok (.iload_n 3, 1) := by decide +kernel
theorem dL_law_765 : decode cL_law 765 = .ok (.iconst 1, 1) := by decide +kernel
theorem dL_law_766 : decode cL_law 766 = .ok (.iadd, 1) := by decide +kernel
theorem dL_law_767 : decode cL_law 767 = .ok (.iaload, 1) := by decide +kernel
theorem dL_law_768 : decode cL_law 768 = .ok (.invokevirtual 84, 3) := by decide +kernel
theorem dL_law_771 : decode cL_law 771 = .ok (.aload_n 2, 1) := by decide +kernel
theorem dL_law_772 : decode cL_law 772 = .ok (.aload_n 0, 1) := by decide +kernel
theorem dL_law_773 : decode cL_law 773 = .ok (.iload_n 3, 1) := by decide +kernel
theorem dL_law_774 : decode cL_law 774 = .ok (.iconst 1, 1) := by decide +kernel
theorem dL_law_775 : decode cL_law 775 = .ok (.iadd, 1) := by decide +kernel
theorem dL_law_776 : decode cL_law 776 = .ok (.iaload, 1) := by decide +kernel
theorem dL_law_777 : decode cL_law 777 = .ok (.invokevirtual 87, 3) := by decide +kernel
theorem dL_law_780 : decode cL_law 780 = .ok (.if_icmp .eq 468, 3) := by decide +kernel
theorem dL_law_783 : decode cL_law 783 = .ok (.iconst 0, 1) := by decide +kernel
theorem dL_law_784 : decode cL_law 784 = .ok (.ireturn, 1) := by decide +kernel
theorem dL_law_785 : decode cL_law 785 = .ok (.aload_n 1, 1) := by decide +kernel
theorem dL_law_786 : decode cL_law 786 = .ok (.aload_n 0, 1) := by decide +kernel
theorem dL_law_787 : decode cL_law 787 = .ok (.iload_n 3, 1) := by decide +kernel
theorem dL_law_788 : decode cL_law 788 = .ok (.iconst 1, 1) := by decide +kernel
theorem dL_law_789 : decode cL_law 789 = .ok (.iadd, 1) := by decide +kernel
theorem dL_law_790 : decode cL_law 790 = .ok (.iaload, 1) := by decide +kernel
theorem dL_law_791 : decode cL_law 791 = .ok (.aload_n 0, 1) := by decide +kernel
theorem dL_law_792 : decode cL_law 792 = .ok (.iload_n 3, 1) := by decide +kernel
theorem dL_law_793 : decode cL_law 793 = .ok (.iconst 2, 1) := by decide +kernel
theorem dL_law_794 : decode cL_law 794 = .ok (.iadd, 1) := by decide +kernel
theorem dL_law_795 : decode cL_law 795 = .ok (.iaload, 1) := by decide +kernel
theorem dL_law_796 : decode cL_law 796 = .ok (.invokevirtual 88, 3) := by decide +kernel
theorem dL_law_799 : decode cL_law 799 = .ok (.aload_n 2, 1) := by decide +kernel
theorem dL_law_800 : decode cL_law 800 = .ok (.aload_n 0, 1) := by decide +kernel
theorem dL_law_801 : decode cL_law 801 = .ok (.iload_n 3, 1) := by decide +kernel
theorem dL_law_802 : decode cL_law 802 = .ok (.iconst 1, 1) := by decide +kernel
theorem dL_law_803 : decode cL_law 803 = .ok (.iadd, 1) := by decide +kernel
theorem dL_law_804 : decode cL_law 804 = .ok (.iaload, 1) := by decide +kernel
theorem dL_law_805 : decode cL_law 805 = .ok (.aload_n 0, 1) := by decide +kernel
theorem dL_law_806 : decode cL_law 806 = .ok (.iload_n 3, 1) := by decide +kernel
theorem dL_law_807 : decode cL_law 807 = .ok (.iconst 2, 1) := by decide +kernel
theorem dL_law_808 : decode cL_law 808 = .ok (.iadd, 1) := by decide +kernel
theorem dL_law_809 : decode cL_law 809 = .ok (.iaload, 1) := by decide +kernel
theorem dL_law_810 : decode cL_law 810 = .ok (.invokevirtual 91, 3) := by decide +kernel
theorem dL_law_813 : decode cL_law 813 = .ok (.if_icmp .eq 435, 3) := by decide +kernel
theorem dL_law_816 : decode cL_law 816 = .ok (.iconst 0, 1) := by decide +kernel
theorem dL_law_817 : decode cL_law 817 = .ok (.ireturn, 1) := by decide +kernel
theorem dL_law_818 : decode cL_law 818 = .ok (.aload_n 1, 1) := by decide +kernel
theorem dL_law_819 : decode cL_law 819 = .ok (.aload_n 0, 1) := by decide +kernel
theorem dL_law_820 : decode cL_law 820 = .ok (.iload_n 3, 1) := by decide +kernel
theorem dL_law_821 : decode cL_law 821 = .ok (.iconst 1, 1) := by decide +kernel
theorem dL_law_822 : decode cL_law 822 = .ok (.iadd, 1) := by decide +kernel
theorem dL_law_823 : decode cL_law 823 = .ok (.iaload, 1) := by decide +kernel
theorem dL_law_824 : decode cL_law 824 = .ok (.aload_n 0, 1) := by decide +kernel
theorem dL_law_825 : decode cL_law 825 = .ok (.iload_n 3, 1) := by decide +kernel
theorem dL_law_826 : decode cL_law 826 = .ok (.iconst 2, 1) := by decide +kernel
theorem dL_law_827 : decode cL_law 827 = .ok (.iadd, 1) := by decide +kernel
theorem dL_law_828 : decode cL_law 828 = .ok (.iaload, 1) := by decide +kernel
theorem dL_law_829 : decode cL_law 829 = .ok (.invokevirtual 92, 3) := by decide +kernel
theorem dL_law_832 : decode cL_law 832 = .ok (.aload_n 2, 1) := by decide +kernel
theorem dL_law_833 : decode cL_law 833 = .ok (.aload_n 0, 1) := by decide +kernel
theorem dL_law_834 : decode cL_law 834 = .ok (.iload_n 3, 1) := by decide +kernel
theorem dL_law_835 : decode cL_law 835 = .ok (.iconst 1, 1) := by decide +kernel
theorem dL_law_836 : decode cL_law 836 = .ok (.iadd, 1) := by decide +kernel
theorem dL_law_837 : decode cL_law 837 = .ok (.iaload, 1) := by decide +kernel
theorem dL_law_838 : decode cL_law 838 = .ok (.aload_n 0, 1) := by decide +kernel
theorem dL_law_839 : decode cL_law 839 = .ok (.iload_n 3, 1) := by decide +kernel
theorem dL_law_840 : decode cL_law 840 = .ok (.iconst 2, 1) := by decide +kernel
theorem dL_law_841 : decode cL_law 841 = .ok (.iadd, 1) := by decide +kernel
theorem dL_law_842 : decode cL_law 842 = .ok (.iaload, 1) := by decide +kernel
theorem dL_law_843 : decode cL_law 843 = .ok (.invokevirtual 95, 3) := by decide +kernel
theorem dL_law_846 : decode cL_law 846 = .ok (.if_icmp .eq 402, 3) := by decide +kernel
theorem dL_law_849 : decode cL_law 849 = .ok (.iconst 0, 1) := by decide +kernel
theorem dL_law_850 : decode cL_law 850 = .ok (.ireturn, 1) := by decide +kernel
theorem dL_law_851 : decode cL_law 851 = .ok (.aload_n 1, 1) := by decide +kernel
theorem dL_law_852 : decode cL_law 852 = .ok (.aload_n 0, 1) := by decide +kernel
theorem dL_law_853 : decode cL_law 853 = .ok (.iload_n 3, 1) := by decide +kernel
theorem dL_law_854 : decode cL_law 854 = .ok (.iconst 1, 1) := by decide +kernel
theorem dL_law_855 : decode cL_law 855 = .ok (.iadd, 1) := by decide +kernel
theorem dL_law_856 : decode cL_law 856 = .ok (.iaload, 1) := by decide +kernel
theorem dL_law_857 : decode cL_law 857 = .ok (.aload_n 0, 1) := by decide +kernel
theorem dL_law_858 : decode cL_law 858 = .ok (.iload_n 3, 1) := by decide +kernel
theorem dL_law_859 : decode cL_law 859 = .ok (.iconst 2, 1) := by decide +kernel
theorem dL_law_860 : decode cL_law 860 = .ok (.iadd, 1) := by decide +kernel
theorem dL_law_861 : decode cL_law 861 = .ok (.iaload, 1) := by decide +kernel
theorem dL_law_862 : decode cL_law 862 = .ok (.invokevirtual 96, 3) := by decide +kernel
theorem dL_law_865 : decode cL_law 865 = .ok (.aload_n 2, 1) := by decide +kernel
theorem dL_law_866 : decode cL_law 866 = .ok (.aload_n 0, 1) := by decide +kernel
theorem dL_law_867 : decode cL_law 867 = .ok (.iload_n 3, 1) := by decide +kernel
theorem dL_law_868 : decode cL_law 868 = .ok (.iconst 1, 1) := by decide +kernel
theorem dL_law_869 : decode cL_law 869 = .ok (.iadd, 1) := by decide +kernel
theorem dL_law_870 : decode cL_law 870 = .ok (.iaload, 1) := by decide +kernel
theorem dL_law_871 : decode cL_law 871 = .ok (.aload_n 0, 1) := by decide +kernel
theorem dL_law_872 : decode cL_law 872 = .ok (.iload_n 3, 1) := by decide +kernel
theorem dL_law_873 : decode cL_law 873 = .ok (.iconst 2, 1) := by decide +kernel
theorem dL_law_874 : decode cL_law 874 = .ok (.iadd, 1) := by decide +kernel
theorem dL_law_875 : decode cL_law 875 = .ok (.iaload, 1) := by decide +kernel
theorem dL_law_876 : decode cL_law 876 = .ok (.invokevirtual 100, 3) := by decide +kernel
theorem dL_law_879 : decode cL_law 879 = .ok (.if_icmp .eq 369, 3) := by decide +kernel
theorem dL_law_882 : decode cL_law 882 = .ok (.iconst 0, 1) := by decide +kernel
theorem dL_law_883 : decode cL_law 883 = .ok (.ireturn, 1) := by decide +kernel
theorem dL_law_884 : decode cL_law 884 = .ok (.aload_n 1, 1) := by decide +kernel
theorem dL_law_885 : decode cL_law 885 = .ok (.aload_n 0, 1) := by decide +kernel
theorem dL_law_886 : decode cL_law 886 = .ok (.iload_n 3, 1) := by decide +kernel
theorem dL_law_887 : decode cL_law 887 = .ok (.iconst 1, 1) := by decide +kernel
theorem dL_law_888 : decode cL_law 888 = .ok (.iadd, 1) := by decide +kernel
theorem dL_law_889 : decode cL_law 889 = .ok (.iaload, 1) := by decide +kernel
theorem dL_law_890 : decode cL_law 890 = .ok (.aload_n 0, 1) := by decide +kernel
theorem dL_law_891 : decode cL_law 891 = .ok (.iload_n 3, 1) := by decide +kernel
theorem dL_law_892 : decode cL_law 892 = .ok (.iconst 2, 1) := by decide +kernel
theorem dL_law_893 : decode cL_law 893 = .ok (.iadd, 1) := by decide +kernel
theorem dL_law_894 : decode cL_law 894 = .ok (.iaload, 1) := by decide +kernel
theorem dL_law_895 : decode cL_law 895 = .ok (.aload_n 0, 1) := by decide +kernel
theorem dL_law_896 : decode cL_law 896 = .ok (.iload_n 3, 1) := by decide +kernel
theorem dL_law_897 : decode cL_law 897 = .ok (.iconst 3, 1) := by decide +kernel
theorem dL_law_898 : decode cL_law 898 = .ok (.iadd, 1) := by decide +kernel
theorem dL_law_899 : decode cL_law 899 = .ok (.iaload, 1) := by decide +kernel
theorem dL_law_900 : decode cL_law 900 = .ok (.invokevirtual 101, 3) := by decide +kernel
theorem dL_law_903 : decode cL_law 903 = .ok (.aload_n 2, 1) := by decide +kernel
theorem dL_law_904 : decode cL_law 904 = .ok (.aload_n 0, 1) := by decide +kernel
theorem dL_law_905 : decode cL_law 905 = .ok (.iload_n 3, 1) := by decide +kernel
theorem dL_law_906 : decode cL_law 906 = .ok (.iconst 1, 1) := by decide +kernel
theorem dL_law_907 : decode cL_law 907 = .ok (.iadd, 1) := by decide +kernel
theorem dL_law_908 : decode cL_law 908 = .ok (.iaload, 1) := by decide +kernel
theorem dL_law_909 : decode cL_law 909 = .ok (.aload_n 0, 1) := by decide +kernel
theorem dL_law_910 : decode cL_law 910 = .ok (.iload_n 3, 1) := by decide +kernel
theorem dL_law_911 : decode cL_law 911 = .ok (.iconst 2, 1) := by decide +kernel
theorem dL_law_912 : decode cL_law 912 = .ok (.iadd, 1) := by decide +kernel
theorem dL_law_913 : decode cL_law 913 = .ok (.iaload, 1) := by decide +kernel
theorem dL_law_914 : decode cL_law 914 = .ok (.aload_n 0, 1) := by decide +kernel
theorem dL_law_915 : decode cL_law 915 = .ok (.iload_n 3, 1) := by decide +kernel
theorem dL_law_916 : decode cL_law 916 = .ok (.iconst 3, 1) := by decide +kernel
theorem dL_law_917 : decode cL_law 917 = .ok (.iadd, 1) := by decide +kernel
theorem dL_law_918 : decode cL_law 918 = .ok (.iaload, 1) := by decide +kernel
theorem dL_law_919 : decode cL_law 919 = .ok (.invokevirtual 105, 3) := by decide +kernel
theorem dL_law_922 : decode cL_law 922 = .ok (.lcmp, 1) := by decide +kernel
theorem dL_law_923 : decode cL_law 923 = .ok (.ifCond .eq 325, 3) := by decide +kernel
theorem dL_law_926 : decode cL_law 926 = .ok (.iconst 0, 1) := by decide +kernel
theorem dL_law_927 : decode cL_law 927 = .ok (.ireturn, 1) := by decide +kernel
theorem dL_law_928 : decode cL_law 928 = .ok (.aload_n 1, 1) := by decide +kernel
theorem dL_law_929 : decode cL_law 929 = .ok (.aload_n 0, 1) := by decide +kernel
theorem dL_law_930 : decode cL_law 930 = .ok (.iload_n 3, 1) := by decide +kernel
theorem dL_law_931 : decode cL_law 931 = .ok (.iconst 1, 1) := by decide +kernel
theorem dL_law_932 : decode cL_law 932 = .ok (.iadd, 1) := by decide +kernel
theorem dL_law_933 : decode cL_law 933 = .ok (.iaload, 1) := by decide +kernel
theorem dL_law_934 : decode cL_law 934 = .ok (.invokevirtual 106, 3) := by decide +kernel
theorem dL_law_937 : decode cL_law 937 = .ok (.aload_n 2, 1) := by decide +kernel
theorem dL_law_938 : decode cL_law 938 = .ok (.aload_n 0, 1) := by decide +kernel
theorem dL_law_939 : decode cL_law 939 = .ok (.iload_n 3, 1) := by decide +kernel
theorem dL_law_940 : decode cL_law 940 = .ok (.iconst 1, 1) := by decide +kernel
theorem dL_law_941 : decode cL_law 941 = .ok (.iadd, 1) := by decide +kernel
theorem dL_law_942 : decode cL_law 942 = .ok (.iaload, 1) := by decide +kernel
theorem dL_law_943 : decode cL_law 943 = .ok (.invokevirtual 109, 3) := by decide +kernel
theorem dL_law_946 : decode cL_law 946 = .ok (.if_icmp .eq 302, 3) := by decide +kernel
theorem dL_law_949 : decode cL_law 949 = .ok (.iconst 0, 1) := by decide +kernel
theorem dL_law_950 : decode cL_law 950 = .ok (.ireturn, 1) := by decide +kernel
theorem dL_law_951 : decode cL_law 951 = .ok (.aload_n 1, 1) := by decide +kernel
theorem dL_law_952 : decode cL_law 952 = .ok (.aload_n 0, 1) := by decide +kernel
theorem dL_law_953 : decode cL_law 953 = .ok (.iload_n 3, 1) := by decide +kernel
theorem dL_law_954 : decode cL_law 954 = .ok (.iconst 1, 1) := by decide +kernel
theorem dL_law_955 : decode cL_law 955 = .ok (.iadd, 1) := by decide +kernel
theorem dL_law_956 : decode cL_law 956 = .ok (.iaload, 1) := by decide +kernel
theorem dL_law_957 : decode cL_law 957 = .ok (.aload_n 0, 1) := by decide +kernel
theorem dL_law_958 : decode cL_law 958 = .ok (.iload_n 3, 1) := by decide +kernel
theorem dL_law_959 : decode cL_law 959 = .ok (.iconst 2, 1) := by decide +kernel
theorem dL_law_960 : decode cL_law 960 = .ok (.iadd, 1) := by decide +kernel
theorem dL_law_961 : decode cL_law 961 = .ok (.iaload, 1) := by decide +kernel
theorem dL_law_962 : decode cL_law 962 = .ok (.aload_n 0, 1) := by decide +kernel
theorem dL_law_963 : decode cL_law 963 = .ok (.iload_n 3, 1) := by decide +kernel
theorem dL_law_964 : decode cL_law 964 = .ok (.iconst 3, 1) := by decide +kernel
theorem dL_law_965 : decode cL_law 965 = .ok (.iadd, 1) := by decide +kernel
theorem dL_law_966 : decode cL_law 966 = .ok (.iaload, 1) := by decide +kernel
theorem dL_law_967 : decode cL_law 967 = .ok (.i2l, 1) := by decide +kernel
theorem dL_law_968 : decode cL_law 968 = .ok (.bipush 32, 2) := by decide +kernel
theorem dL_law_970 : decode cL_law 970 = .ok (.lshl, 1) := by decide +kernel
theorem dL_law_971 : decode cL_law 971 = .ok (.aload_n 0, 1) := by decide +kernel
theorem dL_law_972 : decode cL_law 972 = .ok (.iload_n 3, 1) := by decide +kernel
theorem dL_law_973 : decode cL_law 973 = .ok (.iconst 4, 1) := by decide +kernel
theorem dL_law_974 : decode cL_law 974 = .ok (.iadd, 1) := by decide +kernel
theorem dL_law_975 : decode cL_law 975 = .ok (.iaload, 1) := by decide +kernel
theorem dL_law_976 : decode cL_law 976 = .ok (.i2l, 1) := by decide +kernel
theorem dL_law_977 : decode cL_law 977 = .ok (.ldc2_w 110, 3) := by decide +kernel
theorem dL_law_980 : decode cL_law 980 = .ok (.land, 1) := by decide +kernel
theorem dL_law_981 : decode cL_law 981 = .ok (.lor, 1) := by decide +kernel
theorem dL_law_982 : decode cL_law 982 = .ok (.invokevirtual 112, 3) := by decide +kernel
theorem dL_law_985 : decode cL_law 985 = .ok (.aload_n 2, 1) := by decide +kernel
theorem dL_law_986 : decode cL_law 986 = .ok (.aload_n 0, 1) := by decide +kernel
theorem dL_law_987 : decode cL_law 987 = .ok (.iload_n 3, 1) := by decide +kernel
theorem dL_law_988 : decode cL_law 988 = .ok (.iconst 1, 1) := by decide +kernel
theorem dL_law_989 : decode cL_law 989 = .ok (.iadd, 1) := by decide +kernel
theorem dL_law_990 : decode cL_law 990 = .ok (.iaload, 1) := by decide +kernel
theorem dL_law_991 : decode cL_law 991 = .ok (.aload_n 0, 1) := by decide +kernel
theorem dL_law_992 : decode cL_law 992 = .ok (.iload_n 3, 1) := by decide +kernel
theorem dL_law_993 : decode cL_law 993 = .ok (.iconst 2, 1) := by decide +kernel
theorem dL_law_994 : decode cL_law 994 = .ok (.iadd, 1) := by decide +kernel
theorem dL_law_995 : decode cL_law 995 = .ok (.iaload, 1) := by decide +kernel
theorem dL_law_996 : decode cL_law 996 = .ok (.aload_n 0, 1) := by decide +kernel
theorem dL_law_997 : decode cL_law 997 = .ok (.iload_n 3, 1) := by decide +kernel
theorem dL_law_998 : decode cL_law 998 = .ok (.iconst 3, 1) := by decide +kernel
theorem dL_law_999 : decode cL_law 999 = .ok (.iadd, 1) := by decide +kernel
theorem dL_law_1000 : decode cL_law 1000 = .ok (.iaload, 1) := by decide +kernel
theorem dL_law_1001 : decode cL_law 1001 = .ok (.i2l, 1) := by decide +kernel
theorem dL_law_1002 : decode cL_law 1002 = .ok (.bipush 32, 2) := by decide +kernel
theorem dL_law_1004 : decode cL_law 1004 = .ok (.lshl, 1) := by decide +kernel
theorem dL_law_1005 : decode cL_law 1005 = .ok (.aload_n 0, 1) := by decide +kernel
theorem dL_law_1006 : decode cL_law 1006 = .ok (.iload_n 3, 1) := by decide +kernel
theorem dL_law_1007 : decode cL_law 1007 = .ok (.iconst 4, 1) := by decide +kernel
theorem dL_law_1008 : decode cL_law 1008 = .ok (.iadd, 1) := by decide +kernel
theorem dL_law_1009 : decode cL_law 1009 = .ok (.iaload, 1) := by decide +kernel
theorem dL_law_1010 : decode cL_law 1010 = .ok (.i2l, 1) := by decide +kernel
theorem dL_law_1011 : decode cL_law 1011 = .ok (.ldc2_w 110, 3) := by decide +kernel
theorem dL_law_1014 : decode cL_law 1014 = .ok (.land, 1) := by decide +kernel
theorem dL_law_1015 : decode cL_law 1015 = .ok (.lor, 1) := by decide +kernel
theorem dL_law_1016 : decode cL_law 1016 = .ok (.invokevirtual 116, 3) := by decide +kernel
theorem dL_law_1019 : decode cL_law 1019 = .ok (.if_icmp .eq 229, 3) := by decide +kernel
theorem dL_law_1022 : decode cL_law 1022 = .ok (.iconst 0, 1) := by decide +kernel
theorem dL_law_1023 : decode cL_law 1023 = .ok (.ireturn, 1) := by decide +kernel
theorem dL_law_1024 : decode cL_law 1024 = .ok (.aload_n 1, 1) := by decide +kernel
theorem dL_law_1025 : decode cL_law 1025 = .ok (.aload_n 0, 1) := by decide +kernel
theorem dL_law_1026 : decode cL_law 1026 = .ok (.iload_n 3, 1) := by decide +kernel
theorem dL_law_1027 : decode cL_law 1027 = .ok (.iconst 1, 1) := by decide +kernel
theorem dL_law_1028 : decode cL_law 1028 = .ok (.iadd, 1) := by decide +kernel
theorem dL_law_1029 : decode cL_law 1029 = .ok (.iaload, 1) := by decide +kernel
theorem dL_law_1030 : decode cL_law 1030 = .ok (.invokevirtual 117, 3) := by decide +kernel
theorem dL_law_1033 : decode cL_law 1033 = .ok (.aload_n 2, 1) := by decide +kernel
theorem dL_law_1034 : decode cL_law 1034 = .ok (.aload_n 0, 1) := by decide +kernel
theorem dL_law_1035 : decode cL_law 1035 = .ok (.iload_n 3, 1) := by decide +kernel
theorem dL_law_1036 : decode cL_law 1036 = .ok (.iconst 1, 1) := by decide +kernel
theorem dL_law_1037 : decode cL_law 1037 = .ok (.iadd, 1) := by decide +kernel
theorem dL_law_1038 : decode cL_law 1038 = .ok (.iaload, 1) := by decide +kernel
theorem dL_law_1039 : decode cL_law 1039 = .ok (.invokevirtual 120, 3) := by decide +kernel
theorem dL_law_1042 : decode cL_law 1042 = .ok (.if_icmp .eq 206, 3) := by decide +kernel
theorem dL_law_1045 : decode cL_law 1045 = .ok (.iconst 0, 1) := by decide +kernel
theorem dL_law_1046 : decode cL_law 1046 = .ok (.ireturn, 1) := by decide +kernel
theorem dL_law_1047 : decode cL_law 1047 = .ok (.aload_n 1, 1) := by decide +kernel
theorem dL_law_1048 : decode cL_law 1048 = .ok (.aload_n 0, 1) := by decide +kernel
theorem dL_law_1049 : decode cL_law 1049 = .ok (.iload_n 3, 1) := by decide +kernel
theorem dL_law_1050 : decode cL_law 1050 = .ok (.iconst 1, 1) := by decide +kernel
theorem dL_law_1051 : decode cL_law 1051 = .ok (.iadd, 1) := by decide +kernel
theorem dL_law_1052 : decode cL_law 1052 = .ok (.iaload, 1) := by decide +kernel
theorem dL_law_1053 : decode cL_law 1053 = .ok (.aload_n 0, 1) := by decide +kernel
theorem dL_law_1054 : decode cL_law 1054 = .ok (.iload_n 3, 1) := by decide +kernel
theorem dL_law_1055 : decode cL_law 1055 = .ok (.iconst 2, 1) := by decide +kernel
theorem dL_law_1056 : decode cL_law 1056 = .ok (.iadd, 1) := by decide +kernel
theorem dL_law_1057 : decode cL_law 1057 = .ok (.iaload, 1) := by decide +kernel
theorem dL_law_1058 : decode cL_law 1058 = .ok (.invokevirtual 121, 3) := by decide +kernel
theorem dL_law_1061 : decode cL_law 1061 = .ok (.aload_n 2, 1) := by decide +kernel
theorem dL_law_1062 : decode cL_law 1062 = .ok (.aload_n 0, 1) := by decide +kernel
theorem dL_law_1063 : decode cL_law 1063 = .ok (.iload_n 3, 1) := by decide +kernel
theorem dL_law_1064 : decode cL_law 1064 = .ok (.iconst 1, 1) := by decide +kernel
theorem dL_law_1065 : decode cL_law 1065 = .ok (.iadd, 1) := by decide +kernel
theorem dL_law_1066 : decode cL_law 1066 = .ok (.iaload, 1) := by decide +kernel
theorem dL_law_1067 : decode cL_law 1067 = .ok (.aload_n 0, 1) := by decide +kernel
theorem dL_law_1068 : decode cL_law 1068 = .ok (.iload_n 3, 1) := by decide +kernel
theorem dL_law_1069 : decode cL_law 1069 = .ok (.iconst 2, 1) := by decide +kernel
theorem dL_law_1070 : decode cL_law 1070 = .ok (.iadd, 1) := by decide +kernel
theorem dL_law_1071 : decode cL_law 1071 = .ok (.iaload, 1) := by decide +kernel
theorem dL_law_1072 : decode cL_law 1072 = .ok (.invokevirtual 124, 3) := by decide +kernel
theorem dL_law_1075 : decode cL_law 1075 = .ok (.if_icmp .eq 173, 3) := by decide +kernel
theorem dL_law_1078 : decode cL_law 1078 = .ok (.iconst 0, 1) := by decide +kernel
theorem dL_law_1079 : decode cL_law 1079 = .ok (.ireturn, 1) := by decide +kernel
theorem dL_law_1080 : decode cL_law 1080 = .ok (.aload_n 1, 1) := by decide +kernel
theorem dL_law_1081 : decode cL_law 1081 = .ok (.aload_n 0, 1) := by decide +kernel
theorem dL_law_1082 : decode cL_law 1082 = .ok (.iload_n 3, 1) := by decide +kernel
theorem dL_law_1083 : decode cL_law 1083 = .ok (.iconst 1, 1) := by decide +kernel
theorem dL_law_1084 : decode cL_law 1084 = .ok (.iadd, 1) := by decide +kernel
theorem dL_law_1085 : decode cL_law 1085 = .ok (.iaload, 1) := by decide +kernel
theorem dL_law_1086 : decode cL_law 1086 = .ok (.aload_n 0, 1) := by decide +kernel
theorem dL_law_1087 : decode cL_law 1087 = .ok (.iload_n 3, 1) := by decide +kernel
theorem dL_law_1088 : decode cL_law 1088 = .ok (.iconst 2, 1) := by decide +kernel
theorem dL_law_1089 : decode cL_law 1089 = .ok (.iadd, 1) := by decide +kernel
theorem dL_law_1090 : decode cL_law 1090 = .ok (.iaload, 1) := by decide +kernel
theorem dL_law_1091 : decode cL_law 1091 = .ok (.invokevirtual 125, 3) := by decide +kernel
theorem dL_law_1094 : decode cL_law 1094 = .ok (.aload_n 2, 1) := by decide +kernel
theorem dL_law_1095 : decode cL_law 1095 = .ok (.aload_n 0, 1) := by decide +kernel
theorem dL_law_1096 : decode cL_law 1096 = .ok (.iload_n 3, 1) := by decide +kernel
theorem dL_law_1097 : decode cL_law 1097 = .ok (.iconst 1, 1) := by decide +kernel
theorem dL_law_1098 : decode cL_law 1098 = .ok (.iadd, 1) := by decide +kernel
theorem dL_law_1099 : decode cL_law 1099 = .ok (.iaload, 1) := by decide +kernel
theorem dL_law_1100 : decode cL_law 1100 = .ok (.aload_n 0, 1) := by decide +kernel
theorem dL_law_1101 : decode cL_law 1101 = .ok (.iload_n 3, 1) := by decide +kernel
theorem dL_law_1102 : decode cL_law 1102 = .ok (.iconst 2, 1) := by decide +kernel
theorem dL_law_1103 : decode cL_law 1103 = .ok (.iadd, 1) := by decide +kernel
theorem dL_law_1104 : decode cL_law 1104 = .ok (.iaload, 1) := by decide +kernel
theorem dL_law_1105 : decode cL_law 1105 = .ok (.invokevirtual 128, 3) := by decide +kernel
theorem dL_law_1108 : decode cL_law 1108 = .ok (.if_icmp .eq 140, 3) := by decide +kernel
theorem dL_law_1111 : decode cL_law 1111 = .ok (.iconst 0, 1) := by decide +kernel
theorem dL_law_1112 : decode cL_law 1112 = .ok (.ireturn, 1) := by decide +kernel
theorem dL_law_1113 : decode cL_law 1113 = .ok (.aload_n 1, 1) := by decide +kernel
theorem dL_law_1114 : decode cL_law 1114 = .ok (.aload_n 0, 1) := by decide +kernel
theorem dL_law_1115 : decode cL_law 1115 = .ok (.iload_n 3, 1) := by decide +kernel
theorem dL_law_1116 : decode cL_law 1116 = .ok (.iconst 1, 1) := by decide +kernel
theorem dL_law_1117 : decode cL_law 1117 = .ok (.iadd, 1) := by decide +kernel
theorem dL_law_1118 : decode cL_law 1118 = .ok (.iaload, 1) := by decide +kernel
theorem dL_law_1119 : decode cL_law 1119 = .ok (.aload_n 0, 1) := by decide +kernel
theorem dL_law_1120 : decode cL_law 1120 = .ok (.iload_n 3, 1) := by decide +kernel
theorem dL_law_1121 : decode cL_law 1121 = .ok (.iconst 2, 1) := by decide +kernel
theorem dL_law_1122 : decode cL_law 1122 = .ok (.iadd, 1) := by decide +kernel
theorem dL_law_1123 : decode cL_law 1123 = .ok (.iaload, 1) := by decide +kernel
theorem dL_law_1124 : decode cL_law 1124 = .ok (.aload_n 0, 1) := by decide +kernel
theorem dL_law_1125 : decode cL_law 1125 = .ok (.iload_n 3, 1) := by decide +kernel
theorem dL_law_1126 : decode cL_law 1126 = .ok (.iconst 3, 1) := by decide +kernel
theorem dL_law_1127 : decode cL_law 1127 = .ok (.iadd, 1) := by decide +kernel
theorem dL_law_1128 : decode cL_law 1128 = .ok (.iaload, 1) := by decide +kernel
theorem dL_law_1129 : decode cL_law 1129 = .ok (.aload_n 0, 1) := by decide +kernel
theorem dL_law_1130 : decode cL_law 1130 = .ok (.iload_n 3, 1) := by decide +kernel
theorem dL_law_1131 : decode cL_law 1131 = .ok (.iconst 4, 1) := by decide +kernel
theorem dL_law_1132 : decode cL_law 1132 = .ok (.iadd, 1) := by decide +kernel
theorem dL_law_1133 : decode cL_law 1133 = .ok (.iaload, 1) := by decide +kernel
theorem dL_law_1134 : decode cL_law 1134 = .ok (.invokevirtual 129, 3) := by decide +kernel
theorem dL_law_1137 : decode cL_law 1137 = .ok (.aload_n 2, 1) := by decide +kernel
theorem dL_law_1138 : decode cL_law 1138 = .ok (.aload_n 0, 1) := by decide +kernel
theorem dL_law_1139 : decode cL_law 1139 = .ok (.iload_n 3, 1) := by decide +kernel
theorem dL_law_1140 : decode cL_law 1140 = .ok (.iconst 1, 1) := by decide +kernel
theorem dL_law_1141 : decode cL_law 1141 = .ok (.iadd, 1) := by decide +kernel
theorem dL_law_1142 : decode cL_law 1142 = .ok (.iaload, 1) := by decide +kernel
theorem dL_law_1143 : decode cL_law 1143 = .ok (.aload_n 0, 1) := by decide +kernel
theorem dL_law_1144 : decode cL_law 1144 = .ok (.iload_n 3, 1) := by decide +kernel
theorem dL_law_1145 : decode cL_law 1145 = .ok (.iconst 2, 1) := by decide +kernel
theorem dL_law_1146 : decode cL_law 1146 = .ok (.iadd, 1) := by decide +kernel
theorem dL_law_1147 : decode cL_law 1147 = .ok (.iaload, 1) := by decide +kernel
theorem dL_law_1148 : decode cL_law 1148 = .ok (.aload_n 0, 1) := by decide +kernel
theorem dL_law_1149 : decode cL_law 1149 = .ok (.iload_n 3, 1) := by decide +kernel
theorem dL_law_1150 : decode cL_law 1150 = .ok (.iconst 3, 1) := by decide +kernel
theorem dL_law_1151 : decode cL_law 1151 = .ok (.iadd, 1) := by decide +kernel
theorem dL_law_1152 : decode cL_law 1152 = .ok (.iaload, 1) := by decide +kernel
theorem dL_law_1153 : decode cL_law 1153 = .ok (.aload_n 0, 1) := by decide +kernel
theorem dL_law_1154 : decode cL_law 1154 = .ok (.iload_n 3, 1) := by decide +kernel
theorem dL_law_1155 : decode cL_law 1155 = .ok (.iconst 4, 1) := by decide +kernel
theorem dL_law_1156 : decode cL_law 1156 = .ok (.iadd, 1) := by decide +kernel
theorem dL_law_1157 : decode cL_law 1157 = .ok (.iaload, 1) := by decide +kernel
theorem dL_law_1158 : decode cL_law 1158 = .ok (.invokevirtual 133, 3) := by decide +kernel
theorem dL_law_1161 : decode cL_law 1161 = .ok (.if_icmp .eq 87, 3) := by decide +kernel
theorem dL_law_1164 : decode cL_law 1164 = .ok (.iconst 0, 1) := by decide +kernel
theorem dL_law_1165 : decode cL_law 1165 = .ok (.ireturn, 1) := by decide +kernel
theorem dL_law_1166 : decode cL_law 1166 = .ok (.aload_n 1, 1) := by decide +kernel
theorem dL_law_1167 : decode cL_law 1167 = .ok (.aload_n 0, 1) := by decide +kernel
theorem dL_law_1168 : decode cL_law 1168 = .ok (.iload_n 3, 1) := by decide +kernel
theorem dL_law_1169 : decode cL_law 1169 = .ok (.iconst 1, 1) := by decide +kernel
theorem dL_law_1170 : decode cL_law 1170 = .ok (.iadd, 1) := by decide +kernel
theorem dL_law_1171 : decode cL_law 1171 = .ok (.iaload, 1) := by decide +kernel
theorem dL_law_1172 : decode cL_law 1172 = .ok (.aload_n 0, 1) := by decide +kernel
theorem dL_law_1173 : decode cL_law 1173 = .ok (.iload_n 3, 1) := by decide +kernel
theorem dL_law_1174 : decode cL_law 1174 = .ok (.iconst 2, 1) := by decide +kernel
theorem dL_law_1175 : decode cL_law 1175 = .ok (.iadd, 1) := by decide +kernel
theorem dL_law_1176 : decode cL_law 1176 = .ok (.iaload, 1) := by decide +kernel
theorem dL_law_1177 : decode cL_law 1177 = .ok (.invokevirtual 134, 3) := by decide +kernel
theorem dL_law_1180 : decode cL_law 1180 = .ok (.aload_n 2, 1) := by decide +kernel
theorem dL_law_1181 : decode cL_law 1181 = .ok (.aload_n 0, 1) := by decide +kernel
theorem dL_law_1182 : decode cL_law 1182 = .ok (.iload_n 3, 1) := by decide +kernel
theorem dL_law_1183 : decode cL_law 1183 = .ok (.iconst 1, 1) := by decide +kernel
theorem dL_law_1184 : decode cL_law 1184 = .ok (.iadd, 1) := by decide +kernel
theorem dL_law_1185 : decode cL_law 1185 = .ok (.iaload, 1) := by decide +kernel
theorem dL_law_1186 : decode cL_law 1186 = .ok (.aload_n 0, 1) := by decide +kernel
theorem dL_law_1187 : decode cL_law 1187 = .ok (.iload_n 3, 1) := by decide +kernel
theorem dL_law_1188 : decode cL_law 1188 = .ok (.iconst 2, 1) := by decide +kernel
theorem dL_law_1189 : decode cL_law 1189 = .ok (.iadd, 1) := by decide +kernel
theorem dL_law_1190 : decode cL_law 1190 = .ok (.iaload, 1) := by decide +kernel
theorem dL_law_1191 : decode cL_law 1191 = .ok (.invokevirtual 137, 3) := by decide +kernel
theorem dL_law_1194 : decode cL_law 1194 = .ok (.if_icmp .eq 54, 3) := by decide +kernel
theorem dL_law_1197 : decode cL_law 1197 = .ok (.iconst 0, 1) := by decide +kernel
theorem dL_law_1198 : decode cL_law 1198 = .ok (.ireturn, 1) := by decide +kernel
theorem dL_law_1199 : decode cL_law 1199 = .ok (.aload_n 1, 1) := by decide +kernel
theorem dL_law_1200 : decode cL_law 1200 = .ok (.invokevirtual 138, 3) := by decide +kernel
theorem dL_law_1203 : decode cL_law 1203 = .ok (.aload_n 2, 1) := by decide +kernel
theorem dL_law_1204 : decode cL_law 1204 = .ok (.invokevirtual 141, 3) := by decide +kernel
theorem dL_law_1207 : decode cL_law 1207 = .ok (.if_icmp .eq 41, 3) := by decide +kernel
theorem dL_law_1210 : decode cL_law 1210 = .ok (.iconst 0, 1) := by decide +kernel
theorem dL_law_1211 : decode cL_law 1211 = .ok (.ireturn, 1) := by decide +kernel
theorem dL_law_1212 : decode cL_law 1212 = .ok (.aload_n 1, 1) := by decide +kernel
theorem dL_law_1213 : decode cL_law 1213 = .ok (.invokevirtual 142, 3) := by decide +kernel
theorem dL_law_1216 : decode cL_law 1216 = .ok (.aload_n 2, 1) := by decide +kernel
theorem dL_law_1217 : decode cL_law 1217 = .ok (.invokevirtual 145, 3) := by decide +kernel
theorem dL_law_1220 : decode cL_law 1220 = .ok (.if_icmp .eq 28, 3) := by decide +kernel
theorem dL_law_1223 : decode cL_law 1223 = .ok (.iconst 0, 1) := by decide +kernel
theorem dL_law_1224 : decode cL_law 1224 = .ok (.ireturn, 1) := by decide +kernel
theorem dL_law_1225 : decode cL_law 1225 = .ok (.aload_n 1, 1) := by decide +kernel
theorem dL_law_1226 : decode cL_law 1226 = .ok (.aload_n 0, 1) := by decide +kernel
theorem dL_law_1227 : decode cL_law 1227 = .ok (.iload_n 3, 1) := by decide +kernel
theorem dL_law_1228 : decode cL_law 1228 = .ok (.iconst 1, 1) := by decide +kernel
theorem dL_law_1229 : decode cL_law 1229 = .ok (.iadd, 1) := by decide +kernel
theorem dL_law_1230 : decode cL_law 1230 = .ok (.iaload, 1) := by decide +kernel
theorem dL_law_1231 : decode cL_law 1231 = .ok (.invokevirtual 146, 3) := by decide +kernel
theorem dL_law_1234 : decode cL_law 1234 = .ok (.aload_n 2, 1) := by decide +kernel
theorem dL_law_1235 : decode cL_law 1235 = .ok (.aload_n 0, 1) := by decide +kernel
theorem dL_law_1236 : decode cL_law 1236 = .ok (.iload_n 3, 1) := by decide +kernel
theorem dL_law_1237 : decode cL_law 1237 = .ok (.iconst 1, 1) := by decide +kernel
theorem dL_law_1238 : decode cL_law 1238 = .ok (.iadd, 1) := by decide +kernel
theorem dL_law_1239 : decode cL_law 1239 = .ok (.iaload, 1) := by decide +kernel
theorem dL_law_1240 : decode cL_law 1240 = .ok (.invokevirtual 149, 3) := by decide +kernel
theorem dL_law_1243 : decode cL_law 1243 = .ok (.if_icmp .eq 5, 3) := by decide +kernel
theorem dL_law_1246 : decode cL_law 1246 = .ok (.iconst 0, 1) := by decide +kernel
theorem dL_law_1247 : decode cL_law 1247 = .ok (.ireturn, 1) := by decide +kernel
theorem dL_law_1248 : decode cL_law 1248 = .ok (.iinc 3 6, 3) := by decide +kernel
theorem dL_law_1251 : decode cL_law 1251 = .ok (.goto (-1233), 3) := by decide +kernel
theorem dL_law_1254 : decode cL_law 1254 = .ok (.iconst 1, 1) := by decide +kernel
theorem dL_law_1255 : decode cL_law 1255 = .ok (.ireturn, 1) := by decide +kernel
end
section
theorem dX12_init_0 : decode cX12_init 0 = .ok (.aload_n 0, 1) := by decide +kernel
theorem dX12_init_1 : decode cX12_init 1 = .ok (.invokespecial 1, 3) := by decide +kernel
theorem dX12_init_4 : decode cX12_init 4 = .ok (.aload_n 0, 1) := by decide +kernel
theorem dX12_init_5 : decode cX12_init 5 = .ok (.sipush 8320, 3) := by decide +kernel
theorem dX12_init_8 : decode cX12_init 8 = .ok (.newarray .int, 2) := by decide +kernel
theorem dX12_init_10 : decode cX12_init 10 = .ok (.putfield 7, 3) := by decide +kernel
theorem dX12_init_13 : decode cX12_init 13 = .ok (.aload_n 0, 1) := by decide +kernel
theorem dX12_init_14 : decode cX12_init 14 = .ok (.sipush 8320, 3) := by decide +kernel
theorem dX12_init_17 : decode cX12_init 17 = .ok (.newarray .int, 2) := by decide +kernel
theorem dX12_init_19 : decode cX12_init 19 = .ok (.putfield 13, 3) := by decide +kernel
theorem dX12_init_22 : decode cX12_init 22 = .ok (.aload_n 0, 1) := by decide +kernel
theorem dX12_init_23 : decode cX12_init 23 = .ok (.sipush 160, 3) := by decide +kernel
theorem dX12_init_26 : decode cX12_init 26 = .ok (.newarray .long, 2) := by decide +kernel
theorem dX12_init_28 : decode cX12_init 28 = .ok (.putfield 16, 3) := by decide +kernel
theorem dX12_init_31 : decode cX12_init 31 = .ok (.aload_n 0, 1) := by decide +kernel
theorem dX12_init_32 : decode cX12_init 32 = .ok (.sipush 160, 3) := by decide +kernel
theorem dX12_init_35 : decode cX12_init 35 = .ok (.newarray .long, 2) := by decide +kernel
theorem dX12_init_37 : decode cX12_init 37 = .ok (.putfield 20, 3) := by decide +kernel
theorem dX12_init_40 : decode cX12_init 40 = .ok (.aload_n 0, 1) := by decide +kernel
theorem dX12_init_41 : decode cX12_init 41 = .ok (.bipush 80, 2) := by decide +kernel
theorem dX12_init_43 : decode cX12_init 43 = .ok (.newarray .long, 2) := by decide +kernel
theorem dX12_init_45 : decode cX12_init 45 = .ok (.putfield 23, 3) := by decide +kernel
theorem dX12_init_48 : decode cX12_init 48 = .ok (.aload_n 0, 1) := by decide +kernel
theorem dX12_init_49 : decode cX12_init 49 = .ok (.iconst (-1), 1) := by decide +kernel
theorem dX12_init_50 : decode cX12_init 50 = .ok (.putfield 26, 3) := by decide +kernel
theorem dX12_init_53 : decode cX12_init 53 = .ok (.aload_n 0, 1) := by decide +kernel
theorem dX12_init_54 : decode cX12_init 54 = .ok (.sipush 400, 3) := by decide +kernel
theorem dX12_init_57 : decode cX12_init 57 = .ok (.newarray .byte, 2) := by decide +kernel
theorem dX12_init_59 : decode cX12_init 59 = .ok (.putfield 30, 3) := by decide +kernel
theorem dX12_init_62 : decode cX12_init 62 = .ok (.aload_n 0, 1) := by decide +kernel
theorem dX12_init_63 : decode cX12_init 63 = .ok (.iconst (-1), 1) := by decide +kernel
theorem dX12_init_64 : decode cX12_init 64 = .ok (.putfield 34, 3) := by decide +kernel
theorem dX12_init_67 : decode cX12_init 67 = .ok (.aload_n 0, 1) := by decide +kernel
theorem dX12_init_68 : decode cX12_init 68 = .ok (.iconst (-1), 1) := by decide +kernel
theorem dX12_init_69 : decode cX12_init 69 = .ok (.putfield 37, 3) := by decide +kernel
theorem dX12_init_72 : decode cX12_init 72 = .ok (.aload_n 0, 1) := by decide +kernel
theorem dX12_init_73 : decode cX12_init 73 = .ok (.bipush 18, 2) := by decide +kernel
theorem dX12_init_75 : decode cX12_init 75 = .ok (.newarray .boolean, 2) := by decide +kernel
theorem dX12_init_77 : decode cX12_init 77 = .ok (.putfield 40, 3) := by decide +kernel
theorem dX12_init_80 : decode cX12_init 80 = .ok (.aload_n 0, 1) := by decide +kernel
theorem dX12_init_81 : decode cX12_init 81 = .ok (.sipush 220, 3) := by decide +kernel
theorem dX12_init_84 : decode cX12_init 84 = .ok (.newarray .int, 2) := by decide +kernel
theorem dX12_init_86 : decode cX12_init 86 = .ok (.putfield 44, 3) := by decide +kernel
theorem dX12_init_89 : decode cX12_init 89 = .ok (.aload_n 0, 1) := by decide +kernel
theorem dX12_init_90 : decode cX12_init 90 = .ok (.sipush 7000, 3) := by decide +kernel
theorem dX12_init_93 : decode cX12_init 93 = .ok (.newarray .int, 2) := by decide +kernel
theorem dX12_init_95 : decode cX12_init 95 = .ok (.putfield 47, 3) := by decide +kernel
theorem dX12_init_98 : decode cX12_init 98 = .ok (.aload_n 0, 1) := by decide +kernel
theorem dX12_init_99 : decode cX12_init 99 = .ok (.sipush 7000, 3) := by decide +kernel
theorem dX12_init_102 : decode cX12_init 102 = .ok (.newarray .int, 2) := by decide +kernel
theorem dX12_init_104 : decode cX12_init 104 = .ok (.putfield 50, 3) := by decide +kernel
theorem dX12_init_107 : decode cX12_init 107 = .ok (.aload_n 0, 1) := by decide +kernel
theorem dX12_init_108 : decode cX12_init 108 = .ok (.bipush 16, 2) := by decide +kernel
theorem dX12_init_110 : decode cX12_init 110 = .ok (.newarray .int, 2) := by decide +kernel
theorem dX12_init_112 : decode cX12_init 112 = .ok (.putfield 53, 3) := by decide +kernel
theorem dX12_init_115 : decode cX12_init 115 = .ok (.aload_n 0, 1) := by decide +kernel
theorem dX12_init_116 : decode cX12_init 116 = .ok (.bipush 16, 2) := by decide +kernel
theorem dX12_init_118 : decode cX12_init 118 = .ok (.newarray .int, 2) := by decide +kernel
theorem dX12_init_120 : decode cX12_init 120 = .ok (.putfield 56, 3) := by decide +kernel
theorem dX12_init_123 : decode cX12_init 123 = .ok (.aload_n 0, 1) := by decide +kernel
theorem dX12_init_124 : decode cX12_init 124 = .ok (.bipush 16, 2) := by decide +kernel
theorem dX12_init_126 : decode cX12_init 126 = .ok (.newarray .int, 2) := by decide +kernel
theorem dX12_init_128 : decode cX12_init 128 = .ok (.putfield 59, 3) := by decide +kernel
theorem dX12_init_131 : decode cX12_init 131 = .ok (.aload_n 0, 1) := by decide +kernel
theorem dX12_init_132 : decode cX12_init 132 = .ok (.bipush 16, 2) := by decide +kernel
theorem dX12_init_134 : decode cX12_init 134 = .ok (.newarray .int, 2) := by decide +kernel
theorem dX12_init_136 : decode cX12_init 136 = .ok (.putfield 62, 3) := by decide +kernel
theorem dX12_init_139 : decode cX12_init 139 = .ok (.aload_n 0, 1) := by decide +kernel
theorem dX12_init_140 : decode cX12_init 140 = .ok (.bipush 16, 2) := by decide +kernel
theorem dX12_init_142 : decode cX12_init 142 = .ok (.newarray .boolean, 2) := by decide +kernel
theorem dX12_init_144 : decode cX12_init 144 = .ok (.putfield 65, 3) := by decide +kernel
theorem dX12_init_147 : decode cX12_init 147 = .ok (.aload_n 0, 1) := by decide +kernel
theorem dX12_init_148 : decode cX12_init 148 = .ok (.bipush 6, 2) := by decide +kernel
theorem dX12_init_150 : decode cX12_init 150 = .ok (.newarray .int, 2) := by decide +kernel
theorem dX12_init_152 : decode cX12_init 152 = .ok (.putfield 68, 3) := by decide +kernel
theorem dX12_init_155 : decode cX12_init 155 = .ok (.aload_n 0, 1) := by decide +kernel
theorem dX12_init_156 : decode cX12_init 156 = .ok (.iconst 5, 1) := by decide +kernel
theorem dX12_init_157 : decode cX12_init 157 = .ok (.newarray .boolean, 2) := by decide +kernel
theorem dX12_init_159 : decode cX12_init 159 = .ok (.putfield 71, 3) := by decide +kernel
theorem dX12_init_162 : decode cX12_init 162 = .ok (.aload_n 0, 1) := by decide +kernel
theorem dX12_init_163 : decode cX12_init 163 = .ok (.getfield 7, 3) := by decide +kernel
theorem dX12_init_166 : decode cX12_init 166 = .ok (.bipush 8, 2) := by decide +kernel
theorem dX12_init_168 : decode cX12_init 168 = .ok (.bipush 100, 2) := by decide +kernel
theorem dX12_init_170 : decode cX12_init 170 = .ok (.iastore, 1) := by decide +kernel
theorem dX12_init_171 : decode cX12_init 171 = .ok (.aload_n 0, 1) := by decide +kernel
theorem dX12_init_172 : decode cX12_init 172 = .ok (.getfield 7, 3) := by decide +kernel
theorem dX12_init_175 : decode cX12_init 175 = .ok (.bipush 9, 2) := by decide +kernel
theorem dX12_init_177 : decode cX12_init 177 = .ok (.bipush 100, 2) := by decide +kernel
theorem dX12_init_179 : decode cX12_init 179 = .ok (.iastore, 1) := by decide +kernel
theorem dX12_init_180 : decode cX12_init 180 = .ok (.aload_n 0, 1) := by decide +kernel
theorem dX12_init_181 : decode cX12_init 181 = .ok (.getfield 7, 3) := by decide +kernel
theorem dX12_init_184 : decode cX12_init 184 = .ok (.bipush 10, 2) := by decide +kernel
theorem dX12_init_186 : decode cX12_init 186 = .ok (.sipush 1000, 3) := by decide +kernel
theorem dX12_init_189 : decode cX12_init 189 = .ok (.iastore, 1) := by decide +kernel
theorem dX12_init_190 : decode cX12_init 190 = .ok (.aload_n 0, 1) := by decide +kernel
theorem dX12_init_191 : decode cX12_init 191 = .ok (.getfield 7, 3) := by decide +kernel
theorem dX12_init_194 : decode cX12_init 194 = .ok (.bipush 11, 2) := by decide +kernel
theorem dX12_init_196 : decode cX12_init 196 = .ok (.sipush 1000, 3) := by decide +kernel
theorem dX12_init_199 : decode cX12_init 199 = .ok (.iastore, 1) := by decide +kernel
theorem dX12_init_200 : decode cX12_init 200 = .ok (.aload_n 0, 1) := by decide +kernel
theorem dX12_init_201 : decode cX12_init 201 = .ok (.iconst 1, 1) := by decide +kernel
theorem dX12_init_202 : decode cX12_init 202 = .ok (.invokevirtual 74, 3) := by decide +kernel
theorem dX12_init_205 : decode cX12_init 205 = .ok (.return_, 1) := by decide +kernel
theorem dX12_copies_0 : decode cX12_copies 0 = .ok (.iconst 0, 1) := by decide +kernel
theorem dX12_copies_1 : decode cX12_copies 1 = .ok (.istore_n 2, 1) := by decide +kernel
theorem dX12_copies_2 : decode cX12_copies 2 = .ok (.iload_n 2, 1) := by decide +kernel
theorem dX12_copies_3 : decode cX12_copies 3 = .ok (.sipush 8320, 3) := by decide +kernel
theorem dX12_copies_6 : decode cX12_copies 6 = .ok (.if_icmp .ge 40, 3) := by decide +kernel
theorem dX12_copies_9 : decode cX12_copies 9 = .ok (.iload_n 1, 1) := by decide +kernel
theorem dX12_copies_10 : decode cX12_copies 10 = .ok (.ifCond .eq 18, 3) := by decide +kernel
theorem dX12_copies_13 : decode cX12_copies 13 = .ok (.aload_n 0, 1) := by decide +kernel
theorem dX12_copies_14 : decode cX12_copies 14 = .ok (.getfield 13, 3) := by decide +kernel
theorem dX12_copies_17 : decode cX12_copies 17 = .ok (.iload_n 2, 1) := by decide +kernel
theorem dX12_copies_18 : decode cX12_copies 18 = .ok (.aload_n 0, 1) := by decide +kernel
theorem dX12_copies_19 : decode cX12_copies 19 = .ok (.getfield 7, 3) := by decide +kernel
theorem dX12_copies_22 : decode cX12_copies 22 = .ok (.iload_n 2, 1) := by decide +kernel
theorem dX12_copies_23 : decode cX12_copies 23 = .ok (.iaload, 1) := by decide +kernel
theorem dX12_copies_24 : decode cX12_copies 24 = .ok (.iastore, 1) := by decide +kernel
theorem dX12_copies_25 : decode cX12_copies 25 = .ok (.goto 15, 3) := by decide +kernel
theorem dX12_copies_28 : decode cX12_copies 28 = .ok (.aload_n 0, 1) := by decide +kernel
theorem dX12_copies_29 : decode cX12_copies 29 = .ok (.getfield 7, 3) := by decide +kernel
theorem dX12_copies_32 : decode cX12_copies 32 = .ok (.iload_n 2, 1) := by decide +kernel
theorem dX12_copies_33 : decode cX12_copies 33 = .ok (.aload_n 0, 1) := by decide +kernel
theorem dX12_copies_34 : decode cX12_copies 34 = .ok (.getfield 13, 3) := by decide +kernel
theorem dX12_copies_37 : decode cX12_copies 37 = .ok (.iload_n 2, 1) := by decide +kernel
theorem dX12_copies_38 : decode cX12_copies 38 = .ok (.iaload, 1) := by decide +kernel
theorem dX12_copies_39 : decode cX12_copies 39 = .ok (.iastore, 1) := by decide +kernel
theorem dX12_copies_40 : decode cX12_copies 40 = .ok (.iinc 2 1, 3) := by decide +kernel
theorem dX12_copies_43 : decode cX12_copies 43 = .ok (.goto (-41), 3) := by decide +kernel
theorem dX12_copies_46 : decode cX12_copies 46 = .ok (.iconst 0, 1) := by decide +kernel
theorem dX12_copies_47 : decode cX12_copies 47 = .ok (.istore_n 2, 1) := by decide +kernel
theorem dX12_copies_48 : decode cX12_copies 48 = .ok (.iload_n 2, 1) := by decide +kernel
theorem dX12_copies_49 : decode cX12_copies 49 = .ok (.sipush 160, 3) := by decide +kernel
theorem dX12_copies_52 : decode cX12_copies 52 = .ok (.if_icmp .ge 40, 3) := by decide +kernel
theorem dX12_copies_55 : decode cX12_copies 55 = .ok (.iload_n 1, 1) := by decide +kernel
theorem dX12_copies_56 : decode cX12_copies 56 = .ok (.ifCond .eq 18, 3) := by decide +kernel
theorem dX12_copies_59 : decode cX12_copies 59 = .ok (.aload_n 0, 1) := by decide +kernel
theorem dX12_copies_60 : decode cX12_copies 60 = .ok (.getfield 20, 3) := by decide +kernel
theorem dX12_copies_63 : decode cX12_copies 63 = .ok (.iload_n 2, 1) := by decide +kernel
theorem dX12_copies_64 : decode cX12_copies 64 = .ok (.aload_n 0, 1) := by decide +kernel
theorem dX12_copies_65 : decode cX12_copies 65 = .ok (.getfield 16, 3) := by decide +kernel
theorem dX12_copies_68 : decode cX12_copies 68 = .ok (.iload_n 2, 1) := by decide +kernel
theorem dX12_copies_69 : decode cX12_copies 69 = .ok (.laload, 1) := by decide +kernel
theorem dX12_copies_70 : decode cX12_copies 70 = .ok (.lastore, 1) := by decide +kernel
theorem dX12_copies_71 : decode cX12_copies 71 = .ok (.goto 15, 3) := by decide +kernel
theorem dX12_copies_74 : decode cX12_copies 74 = .ok (.aload_n 0, 1) := by decide +kernel
theorem dX12_copies_75 : decode cX12_copies 75 = .ok (.getfield 16, 3) := by decide +kernel
theorem dX12_copies_78 : decode cX12_copies 78 = .ok (.iload_n 2, 1) := by decide +kernel
theorem dX12_copies_79 : decode cX12_copies 79 = .ok (.aload_n 0, 1) := by decide +kernel
theorem dX12_copies_80 : decode cX12_copies 80 = .ok (.getfield 20, 3) := by decide +kernel
theorem dX12_copies_83 : decode cX12_copies 83 = .ok (.iload_n 2, 1) := by decide +kernel
theorem dX12_copies_84 : decode cX12_copies 84 = .ok (.laload, 1) := by decide +kernel
theorem dX12_copies_85 : decode cX12_copies 85 = .ok (.lastore, 1) := by decide +kernel
theorem dX12_copies_86 : decode cX12_copies 86 = .ok (.iinc 2 1, 3) := by decide +kernel
theorem dX12_copies_89 : decode cX12_copies 89 = .ok (.goto (-41), 3) := by decide +kernel
theorem dX12_copies_92 : decode cX12_copies 92 = .ok (.return_, 1) := by decide +kernel
theorem dX12_in_0 : decode cX12_in 0 = .ok (.lload_n 0, 1) := by decide +kernel
theorem dX12_in_1 : decode cX12_in 1 = .ok (.lload_n 2, 1) := by decide +kernel
theorem dX12_in_2 : decode cX12_in 2 = .ok (.lcmp, 1) := by decide +kernel
theorem dX12_in_3 : decode cX12_in 3 = .ok (.ifCond .lt 14, 3) := by decide +kernel
theorem dX12_in_6 : decode cX12_in 6 = .ok (.lload_n 0, 1) := by decide +kernel
theorem dX12_in_7 : decode cX12_in 7 = .ok (.lload 4, 2) := by decide +kernel
theorem dX12_in_9 : decode cX12_in 9 = .ok (.lcmp, 1) := by decide +kernel
theorem dX12_in_10 : decode cX12_in 10 = .ok (.ifCond .gt 7, 3) := by decide +kernel
theorem dX12_in_13 : decode cX12_in 13 = .ok (.iconst 1, 1) := by decide +kernel
theorem dX12_in_14 : decode cX12_in 14 = .ok (.goto 4, 3) := by decide +kernel
theorem dX12_in_17 : decode cX12_in 17 = .ok (.iconst 0, 1) := by decide +kernel
theorem dX12_in_18 : decode cX12_in 18 = .ok (.ireturn, 1) := by decide +kernel
theorem dX12_isStar_0 : decode cX12_isStar 0 = .ok (.iload_n 0, 1) := by decide +kernel
theorem dX12_isStar_1 : decode cX12_isStar 1 = .ok (.i2l, 1) := by decide +kernel
theorem dX12_isStar_2 : decode cX12_isStar 2 = .ok (.lconst 0, 1) := by decide +kernel
theorem dX12_isStar_3 : decode cX12_isStar 3 = .ok (.lconst 1, 1) := by decide +kernel
theorem dX12_isStar_4 : decode cX12_isStar 4 = .ok (.invokestatic 78, 3) := by decide +kernel
theorem dX12_isStar_7 : decode cX12_isStar 7 = .ok (.ireturn, 1) := by decide +kernel
theorem dX12_isShell_0 : decode cX12_isShell 0 = .ok (.iload_n 1, 1) := by decide +kernel
theorem dX12_isShell_1 : decode cX12_isShell 1 = .ok (.invokestatic 82, 3) := by decide +kernel
theorem dX12_isShell_4 : decode cX12_isShell 4 = .ok (.ifCond .eq 27, 3) := by decide +kernel
theorem dX12_isShell_7 : decode cX12_isShell 7 = .ok (.iload_n 2, 1) := by decide +kernel
theorem dX12_isShell_8 : decode cX12_isShell 8 = .ok (.i2l, 1) := by decide +kernel
theorem dX12_isShell_9 : decode cX12_isShell 9 = .ok (.lconst 0, 1) := by decide +kernel
theorem dX12_isShell_10 : decode cX12_isShell 10 = .ok (.aload_n 0, 1) := by decide +kernel
theorem dX12_isShell_11 : decode cX12_isShell 11 = .ok (.getfield 7, 3) := by decide +kernel
theorem dX12_isShell_14 : decode cX12_isShell 14 = .ok (.iconst 2, 1) := by decide +kernel
theorem dX12_isShell_15 : decode cX12_isShell 15 = .ok (.iload_n 1, 1) := by decide +kernel
theorem dX12_isShell_16 : decode cX12_isShell 16 = .ok (.iadd, 1) := by decide +kernel
theorem dX12_isShell_17 : decode cX12_isShell 17 = .ok (.iaload, 1) := by decide +kernel
theorem dX12_isShell_18 : decode cX12_isShell 18 = .ok (.iconst 1, 1) := by decide +kernel
theorem dX12_isShell_19 : decode cX12_isShell 19 = .ok (.isub, 1) := by decide +kernel
theorem dX12_isShell_20 : decode cX12_isShell 20 = .ok (.i2l, 1) := by decide +kernel
theorem dX12_isShell_21 : decode cX12_isShell 21 = .ok (.invokestatic 78, 3) := by decide +kernel
theorem dX12_isShell_24 : decode cX12_isShell 24 = .ok (.ifCond .eq 7, 3) := by decide +kernel
theorem dX12_isShell_27 : decode cX12_isShell 27 = .ok (.iconst 1, 1) := by decide +kernel
theorem dX12_isShell_28 : decode cX12_isShell 28 = .ok (.goto 4, 3) := by decide +kernel
theorem dX12_isShell_31 : decode cX12_isShell 31 = .ok (.iconst 0, 1) := by decide +kernel
theorem dX12_isShell_32 : decode cX12_isShell 32 = .ok (.ireturn, 1) := by decide +kernel
theorem dX12_put_0 : decode cX12_put 0 = .ok (.aload_n 0, 1) := by decide +kernel
theorem dX12_put_1 : decode cX12_put 1 = .ok (.getfield 30, 3) := by decide +kernel
theorem dX12_put_4 : decode cX12_put 4 = .ok (.aload_n 0, 1) := by decide +kernel
theorem dX12_put_5 : decode cX12_put 5 = .ok (.getfield 86, 3) := by decide +kernel
theorem dX12_put_8 : decode cX12_put 8 = .ok (.iload_n 1, 1) := by decide +kernel
theorem dX12_put_9 : decode cX12_put 9 = .ok (.bipush 24, 2) := by decide +kernel
theorem dX12_put_11 : decode cX12_put 11 = .ok (.ishr, 1) := by decide +kernel
theorem dX12_put_12 : decode cX12_put 12 = .ok (.i2b, 1) := by decide +kernel
theorem dX12_put_13 : decode cX12_put 13 = .ok (.bastore, 1) := by decide +kernel
theorem dX12_put_14 : decode cX12_put 14 = .ok (.aload_n 0, 1) := by decide +kernel
theorem dX12_put_15 : decode cX12_put 15 = .ok (.getfield 30, 3) := by decide +kernel
theorem dX12_put_18 : decode cX12_put 18 = .ok (.aload_n 0, 1) := by decide +kernel
theorem dX12_put_19 : decode cX12_put 19 = .ok (.getfield 86, 3) := by decide +kernel
theorem dX12_put_22 : decode cX12_put 22 = .ok (.iconst 1, 1) := by decide +kernel
theorem dX12_put_23 : decode cX12_put 23 = .ok (.iadd, 1) := by decide +kernel
theorem dX12_put_24 : decode cX12_put 24 = .ok (.iload_n 1, 1) := by decide +kernel
theorem dX12_put_25 : decode cX12_put 25 = .ok (.bipush 16, 2) := by decide +kernel
theorem dX12_put_27 : decode cX12_put 27 = .ok (.ishr, 1) := by decide +kernel
theorem dX12_put_28 : decode cX12_put 28 = .ok (.i2b, 1) := by decide +kernel
theorem dX12_put_29 : decode cX12_put 29 = .ok (.bastore, 1) := by decide +kernel
theorem dX12_put_30 : decode cX12_put 30 = .ok (.aload_n 0, 1) := by decide +kernel
theorem dX12_put_31 : decode cX12_put 31 = .ok (.getfield 30, 3) := by decide +kernel
theorem dX12_put_34 : decode cX12_put 34 = .ok (.aload_n 0, 1) := by decide +kernel
theorem dX12_put_35 : decode cX12_put 35 = .ok (.getfield 86, 3) := by decide +kernel
theorem dX12_put_38 : decode cX12_put 38 = .ok (.iconst 2, 1) := by decide +kernel
theorem dX12_put_39 : decode cX12_put 39 = .ok (.iadd, 1) := by decide +kernel
theorem dX12_put_40 : decode cX12_put 40 = .ok (.iload_n 1, 1) := by decide +kernel
theorem dX12_put_41 : decode cX12_put 41 = .ok (.bipush 8, 2) := by decide +kernel
theorem dX12_put_43 : decode cX12_put 43 = .ok (.ishr, 1) := by decide +kernel
theorem dX12_put_44 : decode cX12_put 44 = .ok (.i2b, 1) := by decide +kernel
theorem dX12_put_45 : decode cX12_put 45 = .ok (.bastore, 1) := by decide +kernel
theorem dX12_put_46 : decode cX12_put 46 = .ok (.aload_n 0, 1) := by decide +kernel
theorem dX12_put_47 : decode cX12_put 47 = .ok (.getfield 30, 3) := by decide +kernel
theorem dX12_put_50 : decode cX12_put 50 = .ok (.aload_n 0, 1) := by decide +kernel
theorem dX12_put_51 : decode cX12_put 51 = .ok (.getfield 86, 3) := by decide +kernel
theorem dX12_put_54 : decode cX12_put 54 = .ok (.iconst 3, 1) := by decide +kernel
theorem dX12_put_55 : decode cX12_put 55 = .ok (.iadd, 1) := by decide +kernel
theorem dX12_put_56 : decode cX12_put 56 = .ok (.iload_n 1, 1) := by decide +kernel
theorem dX12_put_57 : decode cX12_put 57 = .ok (.i2b, 1) := by decide +kernel
theorem dX12_put_58 : decode cX12_put 58 = .ok (.bastore, 1) := by decide +kernel
theorem dX12_put_59 : decode cX12_put 59 = .ok (.aload_n 0, 1) := by decide +kernel
theorem dX12_put_60 : decode cX12_put 60 = .ok (.dup, 1) := by decide +kernel
theorem dX12_put_61 : decode cX12_put 61 = .ok (.getfield 86, 3) := by decide +kernel
theorem dX12_put_64 : decode cX12_put 64 = .ok (.iconst 4, 1) := by decide +kernel
theorem dX12_put_65 : decode cX12_put 65 = .ok (.iadd, 1) := by decide +kernel
theorem dX12_put_66 : decode cX12_put 66 = .ok (.putfield 86, 3) := by decide +kernel
theorem dX12_put_69 : decode cX12_put 69 = .ok (.return_, 1) := by decide +kernel
theorem dX12_feed_0 : decode cX12_feed 0 = .ok (.aload_n 0, 1) := by decide +kernel
theorem dX12_feed_1 : decode cX12_feed 1 = .ok (.getfield 86, 3) := by decide +kernel
theorem dX12_feed_4 : decode cX12_feed 4 = .ok (.bipush 20, 2) := by decide +kernel
theorem dX12_feed_6 : decode cX12_feed 6 = .ok (.iadd, 1) := by decide +kernel
theorem dX12_feed_7 : decode cX12_feed 7 = .ok (.sipush 400, 3) := by decide +kernel
theorem dX12_feed_10 : decode cX12_feed 10 = .ok (.if_icmp .le 5, 3) := by decide +kernel
theorem dX12_feed_13 : decode cX12_feed 13 = .ok (.iconst (-1), 1) := by decide +kernel
theorem dX12_feed_14 : decode cX12_feed 14 = .ok (.ireturn, 1) := by decide +kernel
theorem dX12_feed_15 : decode cX12_feed 15 = .ok (.aload_n 0, 1) := by decide +kernel
theorem dX12_feed_16 : decode cX12_feed 16 = .ok (.iload_n 1, 1) := by decide +kernel
theorem dX12_feed_17 : decode cX12_feed 17 = .ok (.invokevirtual 89, 3) := by decide +kernel
theorem dX12_feed_20 : decode cX12_feed 20 = .ok (.aload_n 0, 1) := by decide +kernel
theorem dX12_feed_21 : decode cX12_feed 21 = .ok (.iload_n 2, 1) := by decide +kernel
theorem dX12_feed_22 : decode cX12_feed 22 = .ok (.invokevirtual 89, 3) := by decide +kernel
theorem dX12_feed_25 : decode cX12_feed 25 = .ok (.aload_n 0, 1) := by decide +kernel
theorem dX12_feed_26 : decode cX12_feed 26 = .ok (.iload_n 3, 1) := by decide +kernel
theorem dX12_feed_27 : decode cX12_feed 27 = .ok (.invokevirtual 89, 3) := by decide +kernel
theorem dX12_feed_30 : decode cX12_feed 30 = .ok (.aload_n 0, 1) := by decide +kernel
theorem dX12_feed_31 : decode cX12_feed 31 = .ok (.iload 4, 2) := by decide +kernel
theorem dX12_feed_33 : decode cX12_feed 33 = .ok (.invokevirtual 89, 3) := by decide +kernel
theorem dX12_feed_36 : decode cX12_feed 36 = .ok (.aload_n 0, 1) := by decide +kernel
theorem dX12_feed_37 : decode cX12_feed 37 = .ok (.iload 5, 2) := by decide +kernel
theorem dX12_feed_39 : decode cX12_feed 39 = .ok (.invokevirtual 89, 3) := by decide +kernel
theorem dX12_feed_42 : decode cX12_feed 42 = .ok (.aload_n 0, 1) := by decide +kernel
theorem dX12_feed_43 : decode cX12_feed 43 = .ok (.getfield 86, 3) := by decide +kernel
theorem dX12_feed_46 : decode cX12_feed 46 = .ok (.ireturn, 1) := by decide +kernel
theorem dX12_end_0 : decode cX12_end 0 = .ok (.iload_n 1, 1) := by decide +kernel
theorem dX12_end_1 : decode cX12_end 1 = .ok (.i2l, 1) := by decide +kernel
theorem dX12_end_2 : decode cX12_end 2 = .ok (.lconst 0, 1) := by decide +kernel
theorem dX12_end_3 : decode cX12_end 3 = .ok (.aload_n 0, 1) := by decide +kernel
theorem dX12_end_4 : decode cX12_end 4 = .ok (.getfield 86, 3) := by decide +kernel
theorem dX12_end_7 : decode cX12_end 7 = .ok (.i2l, 1) := by decide +kernel
theorem dX12_end_8 : decode cX12_end 8 = .ok (.invokestatic 78, 3) := by decide +kernel
theorem dX12_end_11 : decode cX12_end 11 = .ok (.ifCond .ne 5, 3) := by decide +kernel
theorem dX12_end_14 : decode cX12_end 14 = .ok (.iconst (-1), 1) := by decide +kernel
theorem dX12_end_15 : decode cX12_end 15 = .ok (.ireturn, 1) := by decide +kernel
theorem dX12_end_16 : decode cX12_end 16 = .ok (.aload_n 0, 1) := by decide +kernel
theorem dX12_end_17 : decode cX12_end 17 = .ok (.iload_n 1, 1) := by decide +kernel
theorem dX12_end_18 : decode cX12_end 18 = .ok (.putfield 86, 3) := by decide +kernel
theorem dX12_end_21 : decode cX12_end 21 = .ok (.iload_n 1, 1) := by decide +kernel
theorem dX12_end_22 : decode cX12_end 22 = .ok (.ireturn, 1) := by decide +kernel
theorem dX12_isLetter_0 : decode cX12_isLetter 0 = .ok (.iload_n 0, 1) := by decide +kernel
theorem dX12_isLetter_1 : decode cX12_isLetter 1 = .ok (.i2l, 1) := by decide +kernel
theorem dX12_isLetter_2 : decode cX12_isLetter 2 = .ok (.ldc2_w 93, 3) := by decide +kernel
theorem dX12_isLetter_5 : decode cX12_isLetter 5 = .ok (.ldc2_w 95, 3) := by decide +kernel
theorem dX12_isLetter_8 : decode cX12_isLetter 8 = .ok (.invokestatic 78, 3) := by decide +kernel
theorem dX12_isLetter_11 : decode cX12_isLetter 11 = .ok (.ifCond .ne 17, 3) := by decide +kernel
theorem dX12_isLetter_14 : decode cX12_isLetter 14 = .ok (.iload_n 0, 1) := by decide +kernel
theorem dX12_isLetter_15 : decode cX12_isLetter 15 = .ok (.i2l, 1) := by decide +kernel
theorem dX12_isLetter_16 : decode cX12_isLetter 16 = .ok (.ldc2_w 97, 3) := by decide +kernel
theorem dX12_isLetter_19 : decode cX12_isLetter 19 = .ok (.ldc2_w 99, 3) := by decide +kernel
theorem dX12_isLetter_22 : decode cX12_isLetter 22 = .ok (.invokestatic 78, 3) := by decide +kernel
theorem dX12_isLetter_25 : decode cX12_isLetter 25 = .ok (.ifCond .eq 7, 3) := by decide +kernel
theorem dX12_isLetter_28 : decode cX12_isLetter 28 = .ok (.iconst 1, 1) := by decide +kernel
theorem dX12_isLetter_29 : decode cX12_isLetter 29 = .ok (.goto 4, 3) := by decide +kernel
theorem dX12_isLetter_32 : decode cX12_isLetter 32 = .ok (.iconst 0, 1) := by decide +kernel
theorem dX12_isLetter_33 : decode cX12_isLetter 33 = .ok (.ireturn, 1) := by decide +kernel
theorem dX12_wordOf_0 : decode cX12_wordOf 0 = .ok (.lload_n 0, 1) := by decide +kernel
theorem dX12_wordOf_1 : decode cX12_wordOf 1 = .ok (.ldc2_w 101, 3) := by decide +kernel
theorem dX12_wordOf_4 : decode cX12_wordOf 4 = .ok (.lcmp, 1) := by decide +kernel
theorem dX12_wordOf_5 : decode cX12_wordOf 5 = .ok (.ifCond .ne 5, 3) := by decide +kernel
theorem dX12_wordOf_8 : decode cX12_wordOf 8 = .ok (.iconst 0, 1) := by decide +kernel
theorem dX12_wordOf_9 : decode cX12_wordOf 9 = .ok (.ireturn, 1) := by decide +kernel
theorem dX12_wordOf_10 : decode cX12_wordOf 10 = .ok (.lload_n 0, 1) := by decide +kernel
theorem dX12_wordOf_11 : decode cX12_wordOf 11 = .ok (.ldc2_w 103, 3) := by decide +kernel
theorem dX12_wordOf_14 : decode cX12_wordOf 14 = .ok (.lcmp, 1) := by decide +kernel
theorem dX12_wordOf_15 : decode cX12_wordOf 15 = .ok (.ifCond .ne 5, 3) := by decide +kernel
theorem dX12_wordOf_18 : decode cX12_wordOf 18 = .ok (.iconst 1, 1) := by decide +kernel
theorem dX12_wordOf_19 : decode cX12_wordOf 19 = .ok (.ireturn, 1) := by decide +kernel
theorem dX12_wordOf_20 : decode cX12_wordOf 20 = .ok (.lload_n 0, 1) := by decide +kernel
theorem dX12_wordOf_21 : decode cX12_wordOf 21 = .ok (.ldc2_w 105, 3) := by decide +kernel
theorem dX12_wordOf_24 : decode cX12_wordOf 24 = .ok (.lcmp, 1) := by decide +kernel
theorem dX12_wordOf_25 : decode cX12_wordOf 25 = .ok (.ifCond .ne 5, 3) := by decide +kernel
theorem dX12_wordOf_28 : decode cX12_wordOf 28 = .ok (.iconst 2, 1) := by decide +kernel
theorem dX12_wordOf_29 : decode cX12_wordOf 29 = .ok (.ireturn, 1) := by decide +kernel
theorem dX12_wordOf_30 : decode cX12_wordOf 30 = .ok (.lload_n 0, 1) := by decide +kernel
theorem dX12_wordOf_31 : decode cX12_wordOf 31 = .ok (.ldc2_w 107, 3) := by decide +kernel
theorem dX12_wordOf_34 : decode cX12_wordOf 34 = .ok (.lcmp, 1) := by decide +kernel
theorem dX12_wordOf_35 : decode cX12_wordOf 35 = .ok (.ifCond .ne 5, 3) := by decide +kernel
theorem dX12_wordOf_38 : decode cX12_wordOf 38 = .ok (.iconst 3, 1) := by decide +kernel
theorem dX12_wordOf_39 : decode cX12_wordOf 39 = .ok (.ireturn, 1) := by decide +kernel
theorem dX12_wordOf_40 : decode cX12_wordOf 40 = .ok (.lload_n 0, 1) := by decide +kernel
theorem dX12_wordOf_41 : decode cX12_wordOf 41 = .ok (.ldc2_w 109, 3) := by decide +kernel
theorem dX12_wordOf_44 : decode cX12_wordOf 44 = .ok (.lcmp, 1) := by decide +kernel
theorem dX12_wordOf_45 : decode cX12_wordOf 45 = .ok (.ifCond .ne 5, 3) := by decide +kernel
theorem dX12_wordOf_48 : decode cX12_wordOf 48 = .ok (.iconst 4, 1) := by decide +kernel
theorem dX12_wordOf_49 : decode cX12_wordOf 49 = .ok (.ireturn, 1) := by decide +kernel
theorem dX12_wordOf_50 : decode cX12_wordOf 50 = .ok (.lload_n 0, 1) := by decide +kernel
theorem dX12_wordOf_51 : decode cX12_wordOf 51 = .ok (.ldc2_w 111, 3) := by decide +kernel
theorem dX12_wordOf_54 : decode cX12_wordOf 54 = .ok (.lcmp, 1) := by decide +kernel
theorem dX12_wordOf_55 : decode cX12_wordOf 55 = .ok (.ifCond .ne 5, 3) := by decide +kernel
theorem dX12_wordOf_58 : decode cX12_wordOf 58 = .ok (.iconst 5, 1) := by decide +kernel
theorem dX12_wordOf_59 : decode cX12_wordOf 59 = .ok (.ireturn, 1) := by decide +kernel
theorem dX12_wordOf_60 : decode cX12_wordOf 60 = .ok (.lload_n 0, 1) := by decide +kernel
theorem dX12_wordOf_61 : decode cX12_wordOf 61 = .ok (.ldc2_w 113, 3) := by decide +kernel
theorem dX12_wordOf_64 : decode cX12_wordOf 64 = .ok (.lcmp, 1) := by decide +kernel
theorem dX12_wordOf_65 : decode cX12_wordOf 65 = .ok (.ifCond .ne 6, 3) := by decide +kernel
theorem dX12_wordOf_68 : decode cX12_wordOf 68 = .ok (.bipush 6, 2) := by decide +kernel
theorem dX12_wordOf_70 : decode cX12_wordOf 70 = .ok (.ireturn, 1) := by decide +kernel
theorem dX12_wordOf_71 : decode cX12_wordOf 71 = .ok (.iconst (-1), 1) := by decide +kernel
theorem dX12_wordOf_72 : decode cX12_wordOf 72 = .ok (.ireturn, 1) := by decide +kernel
theorem dX12_next_0 : decode cX12_next 0 = .ok (.aload_n 0, 1) := by decide +kernel
theorem dX12_next_1 : decode cX12_next 1 = .ok (.getfield 115, 3) := by decide +kernel
theorem dX12_next_4 : decode cX12_next 4 = .ok (.aload_n 0, 1) := by decide +kernel
theorem dX12_next_5 : decode cX12_next 5 = .ok (.getfield 118, 3) := by decide +kernel
theorem dX12_next_8 : decode cX12_next 8 = .ok (.if_icmp .ge 44, 3) := by decide +kernel
theorem dX12_next_11 : decode cX12_next 11 = .ok (.aload_n 0, 1) := by decide +kernel
theorem dX12_next_12 : decode cX12_next 12 = .ok (.getfield 30, 3) := by decide +kernel
theorem dX12_next_15 : decode cX12_next 15 = .ok (.aload_n 0, 1) := by decide +kernel
theorem dX12_next_16 : decode cX12_next 16 = .ok (.getfield 115, 3) := by decide +kernel
theorem dX12_next_19 : decode cX12_next 19 = .ok (.baload, 1) := by decide +kernel
theorem dX12_next_20 : decode cX12_next 20 = .ok (.bipush 32, 2) := by decide +kernel
theorem dX12_next_22 : decode cX12_next 22 = .ok (.if_icmp .eq 17, 3) := by decide +kernel
theorem dX12_next_25 : decode cX12_next 25 = .ok (.aload_n 0, 1) := by decide +kernel
theorem dX12_next_26 : decode cX12_next 26 = .ok (.getfield 30, 3) := by decide +kernel
theorem dX12_next_29 : decode cX12_next 29 = .ok (.aload_n 0, 1) := by decide +kernel
theorem dX12_next_30 : decode cX12_next 30 = .ok (.getfield 115, 3) := by decide +kernel
theorem dX12_next_33 : decode cX12_next 33 = .ok (.baload, 1) := by decide +kernel
theorem dX12_next_34 : decode cX12_next 34 = .ok (.bipush 10, 2) := by decide +kernel
theorem dX12_next_36 : decode cX12_next 36 = .ok (.if_icmp .ne 16, 3) := by decide +kernel
theorem dX12_next_39 : decode cX12_next 39 = .ok (.aload_n 0, 1) := by decide +kernel
theorem dX12_next_40 : decode cX12_next 40 = .ok (.dup, 1) := by decide +kernel
theorem dX12_next_41 : decode cX12_next 41 = .ok (.getfield 115, 3) := by decide +kernel
theorem dX12_next_44 : decode cX12_next 44 = .ok (.iconst 1, 1) := by decide +kernel
theorem dX12_next_45 : decode cX12_next 45 = .ok (.iadd, 1) := by decide +kernel
theorem dX12_next_46 : decode cX12_next 46 = .ok (.putfield 115, 3) := by decide +kernel
theorem dX12_next_49 : decode cX12_next 49 = .ok (.goto (-49), 3) := by decide +kernel
theorem dX12_next_52 : decode cX12_next 52 = .ok (.aload_n 0, 1) := by decide +kernel
theorem dX12_next_53 : decode cX12_next 53 = .ok (.aload_n 0, 1) := by decide +kernel
theorem dX12_next_54 : decode cX12_next 54 = .ok (.getfield 115, 3) := by decide +kernel
theorem dX12_next_57 : decode cX12_next 57 = .ok (.putfield 121, 3) := by decide +kernel
theorem dX12_next_60 : decode cX12_next 60 = .ok (.aload_n 0, 1) := by decide +kernel
theorem dX12_next_61 : decode cX12_next 61 = .ok (.getfield 115, 3) := by decide +kernel
theorem dX12_next_64 : decode cX12_next 64 = .ok (.aload_n 0, 1) := by decide +kernel
theorem dX12_next_65 : decode cX12_next 65 = .ok (.getfield 118, 3) := by decide +kernel
theorem dX12_next_68 : decode cX12_next 68 = .ok (.if_icmp .ne 9, 3) := by decide +kernel
theorem dX12_next_71 : decode cX12_next 71 = .ok (.aload_n 0, 1) := by decide +kernel
theorem dX12_next_72 : decode cX12_next 72 = .ok (.iconst 0, 1) := by decide +kernel
theorem dX12_next_73 : decode cX12_next 73 = .ok (.putfield 124, 3) := by decide +kernel
theorem dX12_next_76 : decode cX12_next 76 = .ok (.return_, 1) := by decide +kernel
theorem dX12_next_77 : decode cX12_next 77 = .ok (.aload_n 0, 1) := by decide +kernel
theorem dX12_next_78 : decode cX12_next 78 = .ok (.getfield 30, 3) := by decide +kernel
theorem dX12_next_81 : decode cX12_next 81 = .ok (.aload_n 0, 1) := by decide +kernel
theorem dX12_next_82 : decode cX12_next 82 = .ok (.getfield 115, 3) := by decide +kernel
theorem dX12_next_85 : decode cX12_next 85 = .ok (.baload, 1) := by decide +kernel
theorem dX12_next_86 : decode cX12_next 86 = .ok (.istore_n 1, 1) := by decide +kernel
theorem dX12_next_87 : decode cX12_next 87 = .ok (.iload_n 1, 1) := by decide +kernel
theorem dX12_next_88 : decode cX12_next 88 = .ok (.invokestatic 127, 3) := by decide +kernel
theorem dX12_next_91 : decode cX12_next 91 = .ok (.ifCond .eq 155, 3) := by decide +kernel
theorem dX12_next_94 : decode cX12_next 94 = .ok (.lconst 0, 1) := by decide +kernel
theorem dX12_next_95 : decode cX12_next 95 = .ok (.lstore_n 2, 1) := by decide +kernel
theorem dX12_next_96 : decode cX12_next 96 = .ok (.iconst 0, 1) := by decide +kernel
theorem dX12_next_97 : decode cX12_next 97 = .ok (.istore 4, 2) := by decide +kernel
theorem dX12_next_99 : decode cX12_next 99 = .ok (.aload_n 0, 1) := by decide +kernel
theorem dX12_next_100 : decode cX12_next 100 = .ok (.getfield 115, 3) := by decide +kernel
theorem dX12_next_103 : decode cX12_next 103 = .ok (.aload_n 0, 1) := by decide +kernel
theorem dX12_next_104 : decode cX12_next 104 = .ok (.getfield 118, 3) := by decide +kernel
theorem dX12_next_107 : decode cX12_next 107 = .ok (.if_icmp .ge 66, 3) := by decide +kernel
theorem dX12_next_110 : decode cX12_next 110 = .ok (.aload_n 0, 1) := by decide +kernel
theorem dX12_next_111 : decode cX12_next 111 = .ok (.getfield 30, 3) := by decide +kernel
theorem dX12_next_114 : decode cX12_next 114 = .ok (.aload_n 0, 1) := by decide +kernel
theorem dX12_next_115 : decode cX12_next 115 = .ok (.getfield 115, 3) := by decide +kernel
theorem dX12_next_118 : decode cX12_next 118 = .ok (.baload, 1) := by decide +kernel
theorem dX12_next_119 : decode cX12_next 119 = .ok (.invokestatic 127, 3) := by decide +kernel
theorem dX12_next_122 : decode cX12_next 122 = .ok (.ifCond .eq 51, 3) := by decide +kernel
theorem dX12_next_125 : decode cX12_next 125 = .ok (.iload 4, 2) := by decide +kernel
theorem dX12_next_127 : decode cX12_next 127 = .ok (.bipush 8, 2) := by decide +kernel
theorem dX12_next_129 : decode cX12_next 129 = .ok (.if_icmp .ge 26, 3) := by decide +kernel
theorem dX12_next_132 : decode cX12_next 132 = .ok (.ldc2_w 130, 3) := by decide +kernel
theorem dX12_next_135 : decode cX12_next 135 = .ok (.lload_n 2, 1) := by decide +kernel
theorem dX12_next_136 : decode cX12_next 136 = .ok (.lmul, 1) := by decide +kernel
theorem dX12_next_137 : decode cX12_next 137 = .ok (.aload_n 0, 1) := by decide +kernel
theorem dX12_next_138 : decode cX12_next 138 = .ok (.getfield 30, 3) := by decide +kernel
theorem dX12_next_141 : decode cX12_next 141 = .ok (.aload_n 0, 1) := by decide +kernel
theorem dX12_next_142 : decode cX12_next 142 = .ok (.getfield 115, 3) := by decide +kernel
theorem dX12_next_145 : decode cX12_next 145 = .ok (.baload, 1) := by decide +kernel
theorem dX12_next_146 : decode cX12_next 146 = .ok (.i2l, 1) := by decide +kernel
theorem dX12_next_147 : decode cX12_next 147 = .ok (.ladd, 1) := by decide +kernel
theorem dX12_next_148 : decode cX12_next 148 = .ok (.ldc2_w 130, 3) := by decide +kernel
theorem dX12_next_151 : decode cX12_next 151 = .ok (.lsub, 1) := by decide +kernel
theorem dX12_next_152 : decode cX12_next 152 = .ok (.goto 4, 3) := by decide +kernel
theorem dX12_next_155 : decode cX12_next 155 = .ok (.lload_n 2, 1) := by decide +kernel
theorem dX12_next_156 : decode cX12_next 156 = .ok (.lstore_n 2, 1) := by decide +kernel
theorem dX12_next_157 : decode cX12_next 157 = .ok (.iinc 4 1, 3) := by decide +kernel
theorem dX12_next_160 : decode cX12_next 160 = .ok (.aload_n 0, 1) := by decide +kernel
theorem dX12_next_161 : decode cX12_next 161 = .ok (.dup, 1) := by decide +kernel
theorem dX12_next_162 : decode cX12_next 162 = .ok (.getfield 115, 3) := by decide +kernel
theorem dX12_next_165 : decode cX12_next 165 = .ok (.iconst 1, 1) := by decide +kernel
theorem dX12_next_166 : decode cX12_next 166 = .ok (.iadd, 1) := by decide +kernel
theorem dX12_next_167 : decode cX12_next 167 = .ok (.putfield 115, 3) := by decide +kernel
theorem dX12_next_170 : decode cX12_next 170 = .ok (.goto (-71), 3) := by decide +kernel
theorem dX12_next_173 : decode cX12_next 173 = .ok (.iload 4, 2) := by decide +kernel
theorem dX12_next_175 : decode cX12_next 175 = .ok (.iconst 1, 1) := by decide +kernel
theorem dX12_next_176 : decode cX12_next 176 = .ok (.if_icmp .ne 33, 3) := by decide +kernel
theorem dX12_next_179 : decode cX12_next 179 = .ok (.iload_n 1, 1) := by decide +kernel
theorem dX12_next_180 : decode cX12_next 180 = .ok (.i2l, 1) := by decide +kernel
theorem dX12_next_181 : decode cX12_next 181 = .ok (.ldc2_w 97, 3) := by decide +kernel
theorem dX12_next_184 : decode cX12_next 184 = .ok (.ldc2_w 132, 3) := by decide +kernel
theorem dX12_next_187 : decode cX12_next 187 = .ok (.invokestatic 78, 3) := by decide +kernel
theorem dX12_next_190 : decode cX12_next 190 = .ok (.ifCond .eq 19, 3) := by decide +kernel
theorem dX12_next_193 : decode cX12_next 193 = .ok (.aload_n 0, 1) := by decide +kernel
theorem dX12_next_194 : decode cX12_next 194 = .ok (.iconst 2, 1) := by decide +kernel
theorem dX12_next_195 : decode cX12_next 195 = .ok (.putfield 124, 3) := by decide +kernel
theorem dX12_next_198 : decode cX12_next 198 = .ok (.aload_n 0, 1) := by decide +kernel
theorem dX12_next_199 : decode cX12_next 199 = .ok (.iload_n 1, 1) := by decide +kernel
theorem dX12_next_200 : decode cX12_next 200 = .ok (.bipush 65, 2) := by decide +kernel
theorem dX12_next_202 : decode cX12_next 202 = .ok (.isub, 1) := by decide +kernel
theorem dX12_next_203 : decode cX12_next 203 = .ok (.putfield 134, 3) := by decide +kernel
theorem dX12_next_206 : decode cX12_next 206 = .ok (.goto 37, 3) := by decide +kernel
theorem dX12_next_209 : decode cX12_next 209 = .ok (.aload_n 0, 1) := by decide +kernel
theorem dX12_next_210 : decode cX12_next 210 = .ok (.iload 4, 2) := by decide +kernel
theorem dX12_next_212 : decode cX12_next 212 = .ok (.iconst 5, 1) := by decide +kernel
theorem dX12_next_213 : decode cX12_next 213 = .ok (.if_icmp .le 7, 3) := by decide +kernel
theorem dX12_next_216 : decode cX12_next 216 = .ok (.iconst (-1), 1) := by decide +kernel
theorem dX12_next_217 : decode cX12_next 217 = .ok (.goto 7, 3) := by decide +kernel
theorem dX12_next_220 : decode cX12_next 220 = .ok (.lload_n 2, 1) := by decide +kernel
theorem dX12_next_221 : decode cX12_next 221 = .ok (.invokestatic 137, 3) := by decide +kernel
theorem dX12_next_224 : decode cX12_next 224 = .ok (.putfield 134, 3) := by decide +kernel
theorem dX12_next_227 : decode cX12_next 227 = .ok (.aload_n 0, 1) := by decide +kernel
theorem dX12_next_228 : decode cX12_next 228 = .ok (.aload_n 0, 1) := by decide +kernel
theorem dX12_next_229 : decode cX12_next 229 = .ok (.getfield 134, 3) := by decide +kernel
theorem dX12_next_232 : decode cX12_next 232 = .ok (.ifCond .ge 7, 3) := by decide +kernel
theorem dX12_next_235 : decode cX12_next 235 = .ok (.iconst 5, 1) := by decide +kernel
theorem dX12_next_236 : decode cX12_next 236 = .ok (.goto 4, 3) := by decide +kernel
theorem dX12_next_239 : decode cX12_next 239 = .ok (.iconst 1, 1) := by decide +kernel
theorem dX12_next_240 : decode cX12_next 240 = .ok (.putfield 124, 3) := by decide +kernel
theorem dX12_next_243 : decode cX12_next 243 = .ok (.goto 155, 3) := by decide +kernel
theorem dX12_next_246 : decode cX12_next 246 = .ok (.iload_n 1, 1) := by decide +kernel
theorem dX12_next_247 : decode cX12_next 247 = .ok (.i2l, 1) := by decide +kernel
theorem dX12_next_248 : decode cX12_next 248 = .ok (.ldc2_w 141, 3) := by decide +kernel
theorem dX12_next_251 : decode cX12_next 251 = .ok (.ldc2_w 143, 3) := by decide +kernel
theorem dX12_next_254 : decode cX12_next 254 = .ok (.invokestatic 78, 3) := by decide +kernel
theorem dX12_next_257 : decode cX12_next 257 = .ok (.ifCond .eq 99, 3) := by decide +kernel
theorem dX12_next_260 : decode cX12_next 260 = .ok (.aload_n 0, 1) := by decide +kernel
theorem dX12_next_261 : decode cX12_next 261 = .ok (.iconst 3, 1) := by decide +kernel
theorem dX12_next_262 : decode cX12_next 262 = .ok (.putfield 124, 3) := by decide +kernel
theorem dX12_next_265 : decode cX12_next 265 = .ok (.aload_n 0, 1) := by decide +kernel
theorem dX12_next_266 : decode cX12_next 266 = .ok (.iconst 0, 1) := by decide +kernel
theorem dX12_next_267 : decode cX12_next 267 = .ok (.putfield 134, 3) := by decide +kernel
theorem dX12_next_270 : decode cX12_next 270 = .ok (.aload_n 0, 1) := by decide +kernel
theorem dX12_next_271 : decode cX12_next 271 = .ok (.getfield 115, 3) := by decide +kernel
theorem dX12_next_274 : decode cX12_next 274 = .ok (.aload_n 0, 1) := by decide +kernel
theorem dX12_next_275 : decode cX12_next 275 = .ok (.getfield 118, 3) := by decide +kernel
theorem dX12_next_278 : decode cX12_next 278 = .ok (.if_icmp .ge 120, 3) := by decide +kernel
theorem dX12_next_281 : decode cX12_next 281 = .ok (.aload_n 0, 1) := by decide +kernel
theorem dX12_next_282 : decode cX12_next 282 = .ok (.getfield 30, 3) := by decide +kernel
theorem dX12_next_285 : decode cX12_next 285 = .ok (.aload_n 0, 1) := by decide +kernel
theorem dX12_next_286 : decode cX12_next 286 = .ok (.getfield 115, 3) := by decide +kernel
theorem dX12_next_289 : decode cX12_next 289 = .ok (.baload, 1) := by decide +kernel
theorem dX12_next_290 : decode cX12_next 290 = .ok (.i2l, 1) := by decide +kernel
theorem dX12_next_291 : decode cX12_next 291 = .ok (.ldc2_w 141, 3) := by decide +kernel
theorem dX12_next_294 : decode cX12_next 294 = .ok (.ldc2_w 143, 3) := by decide +kernel
theorem dX12_next_297 : decode cX12_next 297 = .ok (.invokestatic 78, 3) := by decide +kernel
theorem dX12_next_300 : decode cX12_next 300 = .ok (.ifCond .eq 98, 3) := by decide +kernel
theorem dX12_next_303 : decode cX12_next 303 = .ok (.aload_n 0, 1) := by decide +kernel
theorem dX12_next_304 : decode cX12_next 304 = .ok (.aload_n 0, 1) := by decide +kernel
theorem dX12_next_305 : decode cX12_next 305 = .ok (.getfield 134, 3) := by decide +kernel
theorem dX12_next_308 : decode cX12_next 308 = .ok (.ldc 145, 2) := by decide +kernel
theorem dX12_next_310 : decode cX12_next 310 = .ok (.if_icmp .le 10, 3) := by decide +kernel
theorem dX12_next_313 : decode cX12_next 313 = .ok (.aload_n 0, 1) := by decide +kernel
theorem dX12_next_314 : decode cX12_next 314 = .ok (.getfield 134, 3) := by decide +kernel
theorem dX12_next_317 : decode cX12_next 317 = .ok (.goto 23, 3) := by decide +kernel
theorem dX12_next_320 : decode cX12_next 320 = .ok (.bipush 10, 2) := by decide +kernel
theorem dX12_next_322 : decode cX12_next 322 = .ok (.aload_n 0, 1) := by decide +kernel
theorem dX12_next_323 : decode cX12_next 323 = .ok (.getfield 134, 3) := by decide +kernel
theorem dX12_next_326 : decode cX12_next 326 = .ok (.imul, 1) := by decide +kernel
theorem dX12_next_327 : decode cX12_next 327 = .ok (.aload_n 0, 1) := by decide +kernel
theorem dX12_next_328 : decode cX12_next 328 = .ok (.getfield 30, 3) := by decide +kernel
theorem dX12_next_331 : decode cX12_next 331 = .ok (.aload_n 0, 1) := by decide +kernel
theorem dX12_next_332 : decode cX12_next 332 = .ok (.getfield 115, 3) := by decide +kernel
theorem dX12_next_335 : decode cX12_next 335 = .ok (.baload, 1) := by decide +kernel
theorem dX12_next_336 : decode cX12_next 336 = .ok (.iadd, 1) := by decide +kernel
theorem dX12_next_337 : decode cX12_next 337 = .ok (.bipush 48, 2) := by decide +kernel
theorem dX12_next_339 : decode cX12_next 339 = .ok (.isub, 1) := by decide +kernel
theorem dX12_next_340 : decode cX12_next 340 = .ok (.putfield 134, 3) := by decide +kernel
theorem dX12_next_343 : decode cX12_next 343 = .ok (.aload_n 0, 1) := by decide +kernel
theorem dX12_next_344 : decode cX12_next 344 = .ok (.dup, 1) := by decide +kernel
theorem dX12_next_345 : decode cX12_next 345 = .ok (.getfield 115, 3) := by decide +kernel
theorem dX12_next_348 : decode cX12_next 348 = .ok (.iconst 1, 1) := by decide +kernel
theorem dX12_next_349 : decode cX12_next 349 = .ok (.iadd, 1) := by decide +kernel
theorem dX12_next_350 : decode cX12_next 350 = .ok (.putfield 115, 3) := by decide +kernel
theorem dX12_next_353 : decode cX12_next 353 = .ok (.goto (-83), 3) := by decide +kernel
theorem dX12_next_356 : decode cX12_next 356 = .ok (.aload_n 0, 1) := by decide +kernel
theorem dX12_next_357 : decode cX12_next 357 = .ok (.dup, 1) := by decide +kernel
theorem dX12_next_358 : decode cX12_next 358 = .ok (.getfield 115, 3) := by decide +kernel
theorem dX12_next_361 : decode cX12_next 361 = .ok (.iconst 1, 1) := by decide +kernel
theorem dX12_next_362 : decode cX12_next 362 = .ok (.iadd, 1) := by decide +kernel
theorem dX12_next_363 : decode cX12_next 363 = .ok (.putfield 115, 3) := by decide +kernel
theorem dX12_next_366 : decode cX12_next 366 = .ok (.aload_n 0, 1) := by decide +kernel
theorem dX12_next_367 : decode cX12_next 367 = .ok (.iload_n 1, 1) := by decide +kernel
theorem dX12_next_368 : decode cX12_next 368 = .ok (.putfield 134, 3) := by decide +kernel
theorem dX12_next_371 : decode cX12_next 371 = .ok (.aload_n 0, 1) := by decide +kernel
theorem dX12_next_372 : decode cX12_next 372 = .ok (.iload_n 1, 1) := by decide +kernel
theorem dX12_next_373 : decode cX12_next 373 = .ok (.bipush 61, 2) := by decide +kernel
theorem dX12_next_375 : decode cX12_next 375 = .ok (.if_icmp .eq 15, 3) := by decide +kernel
theorem dX12_next_378 : decode cX12_next 378 = .ok (.iload_n 1, 1) := by decide +kernel
theorem dX12_next_379 : decode cX12_next 379 = .ok (.bipush 44, 2) := by decide +kernel
theorem dX12_next_381 : decode cX12_next 381 = .ok (.if_icmp .eq 9, 3) := by decide +kernel
theorem dX12_next_384 : decode cX12_next 384 = .ok (.iload_n 1, 1) := by decide +kernel
theorem dX12_next_385 : decode cX12_next 385 = .ok (.bipush 59, 2) := by decide +kernel
theorem dX12_next_387 : decode cX12_next 387 = .ok (.if_icmp .ne 7, 3) := by decide +kernel
theorem dX12_next_390 : decode cX12_next 390 = .ok (.iconst 4, 1) := by decide +kernel
theorem dX12_next_391 : decode cX12_next 391 = .ok (.goto 4, 3) := by decide +kernel
theorem dX12_next_394 : decode cX12_next 394 = .ok (.iconst 5, 1) := by decide +kernel
theorem dX12_next_395 : decode cX12_next 395 = .ok (.putfield 124, 3) := by decide +kernel
theorem dX12_next_398 : decode cX12_next 398 = .ok (.return_, 1) := by decide +kernel
theorem dX12_errs_0 : decode cX12_errs 0 = .ok (.aload_n 0, 1) := by decide +kernel
theorem dX12_errs_1 : decode cX12_errs 1 = .ok (.getfield 146, 3) := by decide +kernel
theorem dX12_errs_4 : decode cX12_errs 4 = .ok (.ifCond .ne 16, 3) := by decide +kernel
theorem dX12_errs_7 : decode cX12_errs 7 = .ok (.aload_n 0, 1) := by decide +kernel
theorem dX12_errs_8 : decode cX12_errs 8 = .ok (.iload_n 1, 1) := by decide +kernel
theorem dX12_errs_9 : decode cX12_errs 9 = .ok (.putfield 146, 3) := by decide +kernel
theorem dX12_errs_12 : decode cX12_errs 12 = .ok (.aload_n 0, 1) := by decide +kernel
theorem dX12_errs_13 : decode cX12_errs 13 = .ok (.aload_n 0, 1) := by decide +kernel
theorem dX12_errs_14 : decode cX12_errs 14 = .ok (.getfield 121, 3) := by decide +kernel
theorem dX12_errs_17 : decode cX12_errs 17 = .ok (.putfield 149, 3) := by decide +kernel
theorem dX12_errs_20 : decode cX12_errs 20 = .ok (.return_, 1) := by decide +kernel
theorem dX12_number_0 : decode cX12_number 0 = .ok (.aload_n 0, 1) := by decide +kernel
theorem dX12_number_1 : decode cX12_number 1 = .ok (.getfield 146, 3) := by decide +kernel
theorem dX12_number_4 : decode cX12_number 4 = .ok (.ifCond .gt 11, 3) := by decide +kernel
theorem dX12_number_7 : decode cX12_number 7 = .ok (.aload_n 0, 1) := by decide +kernel
theorem dX12_number_8 : decode cX12_number 8 = .ok (.getfield 124, 3) := by decide +kernel
theorem dX12_number_11 : decode cX12_number 11 = .ok (.iconst 3, 1) := by decide +kernel
theorem dX12_number_12 : decode cX12_number 12 = .ok (.if_icmp .eq 10, 3) := by decide +kernel
theorem dX12_number_15 : decode cX12_number 15 = .ok (.aload_n 0, 1) := by decide +kernel
theorem dX12_number_16 : decode cX12_number 16 = .ok (.iconst 1, 1) := by decide +kernel
theorem dX12_number_17 : decode cX12_number 17 = .ok (.invokevirtual 152, 3) := by decide +kernel
theorem dX12_number_20 : decode cX12_number 20 = .ok (.iload_n 1, 1) := by decide +kernel
theorem dX12_number_21 : decode cX12_number 21 = .ok (.ireturn, 1) := by decide +kernel
theorem dX12_number_22 : decode cX12_number 22 = .ok (.aload_n 0, 1) := by decide +kernel
theorem dX12_number_23 : decode cX12_number 23 = .ok (.getfield 134, 3) := by decide +kernel
theorem dX12_number_26 : decode cX12_number 26 = .ok (.i2l, 1) := by decide +kernel
theorem dX12_number_27 : decode cX12_number 27 = .ok (.iload_n 1, 1) := by decide +kernel
theorem dX12_number_28 : decode cX12_number 28 = .ok (.i2l, 1) := by decide +kernel
theorem dX12_number_29 : decode cX12_number 29 = .ok (.iload_n 2, 1) := by decide +kernel
theorem dX12_number_30 : decode cX12_number 30 = .ok (.i2l, 1) := by decide +kernel
theorem dX12_number_31 : decode cX12_number 31 = .ok (.invokestatic 78, 3) := by decide +kernel
theorem dX12_number_34 : decode cX12_number 34 = .ok (.ifCond .ne 10, 3) := by decide +kernel
theorem dX12_number_37 : decode cX12_number 37 = .ok (.aload_n 0, 1) := by decide +kernel
theorem dX12_number_38 : decode cX12_number 38 = .ok (.iconst 2, 1) := by decide +kernel
theorem dX12_number_39 : decode cX12_number 39 = .ok (.invokevirtual 152, 3) := by decide +kernel
theorem dX12_number_42 : decode cX12_number 42 = .ok (.iload_n 1, 1) := by decide +kernel
theorem dX12_number_43 : decode cX12_number 43 = .ok (.ireturn, 1) := by decide +kernel
theorem dX12_number_44 : decode cX12_number 44 = .ok (.aload_n 0, 1) := by decide +kernel
theorem dX12_number_45 : decode cX12_number 45 = .ok (.getfield 134, 3) := by decide +kernel
theorem dX12_number_48 : decode cX12_number 48 = .ok (.istore_n 3, 1) := by decide +kernel
theorem dX12_number_49 : decode cX12_number 49 = .ok (.aload_n 0, 1) := by decide +kernel
theorem dX12_number_50 : decode cX12_number 50 = .ok (.invokevirtual 155, 3) := by decide +kernel
theorem dX12_number_53 : decode cX12_number 53 = .ok (.iload_n 3, 1) := by decide +kernel
theorem dX12_number_54 : decode cX12_number 54 = .ok (.ireturn, 1) := by decide +kernel
theorem dX12_takes_0 : decode cX12_takes 0 = .ok (.aload_n 0, 1) := by decide +kernel
theorem dX12_takes_1 : decode cX12_takes 1 = .ok (.getfield 146, 3) := by decide +kernel
theorem dX12_takes_4 : decode cX12_takes 4 = .ok (.ifCond .gt 19, 3) := by decide +kernel
theorem dX12_takes_7 : decode cX12_takes 7 = .ok (.aload_n 0, 1) := by decide +kernel
theorem dX12_takes_8 : decode cX12_takes 8 = .ok (.getfield 124, 3) := by decide +kernel
theorem dX12_takes_11 : decode cX12_takes 11 = .ok (.iload_n 1, 1) := by decide +kernel
theorem dX12_takes_12 : decode cX12_takes 12 = .ok (.if_icmp .ne 11, 3) := by decide +kernel
theorem dX12_takes_15 : decode cX12_takes 15 = .ok (.aload_n 0, 1) := by decide +kernel
theorem dX12_takes_16 : decode cX12_takes 16 = .ok (.getfield 134, 3) := by decide +kernel
theorem dX12_takes_19 : decode cX12_takes 19 = .ok (.iload_n 2, 1) := by decide +kernel
theorem dX12_takes_20 : decode cX12_takes 20 = .ok (.if_icmp .eq 9, 3) := by decide +kernel
theorem dX12_takes_23 : decode cX12_takes 23 = .ok (.aload_n 0, 1) := by decide +kernel
theorem dX12_takes_24 : decode cX12_takes 24 = .ok (.iconst 1, 1) := by decide +kernel
theorem dX12_takes_25 : decode cX12_takes 25 = .ok (.invokevirtual 152, 3) := by decide +kernel
theorem dX12_takes_28 : decode cX12_takes 28 = .ok (.return_, 1) := by decide +kernel
theorem dX12_takes_29 : decode cX12_takes 29 = .ok (.aload_n 0, 1) := by decide +kernel
theorem dX12_takes_30 : decode cX12_takes 30 = .ok (.invokevirtual 155, 3) := by decide +kernel
theorem dX12_takes_33 : decode cX12_takes 33 = .ok (.return_, 1) := by decide +kernel
theorem dX12_kindOf_0 : decode cX12_kindOf 0 = .ok (.aload_n 0, 1) := by decide +kernel
theorem dX12_kindOf_1 : decode cX12_kindOf 1 = .ok (.getfield 146, 3) := by decide +kernel
theorem dX12_kindOf_4 : decode cX12_kindOf 4 = .ok (.ifCond .gt 11, 3) := by decide +kernel
theorem dX12_kindOf_7 : decode cX12_kindOf 7 = .ok (.aload_n 0, 1) := by decide +kernel
theorem dX12_kindOf_8 : decode cX12_kindOf 8 = .ok (.getfield 124, 3) := by decide +kernel
theorem dX12_kindOf_11 : decode cX12_kindOf 11 = .ok (.iconst 2, 1) := by decide +kernel
theorem dX12_kindOf_12 : decode cX12_kindOf 12 = .ok (.if_icmp .eq 10, 3) := by decide +kernel
theorem dX12_kindOf_15 : decode cX12_kindOf 15 = .ok (.aload_n 0, 1) := by decide +kernel
theorem dX12_kindOf_16 : decode cX12_kindOf 16 = .ok (.iconst 1, 1) := by decide +kernel
theorem dX12_kindOf_17 : decode cX12_kindOf 17 = .ok (.invokevirtual 152, 3) := by decide +kernel
theorem dX12_kindOf_20 : decode cX12_kindOf 20 = .ok (.iconst 0, 1) := by decide +kernel
theorem dX12_kindOf_21 : decode cX12_kindOf 21 = .ok (.ireturn, 1) := by decide +kernel
theorem dX12_kindOf_22 : decode cX12_kindOf 22 = .ok (.aload_n 0, 1) := by decide +kernel
theorem dX12_kindOf_23 : decode cX12_kindOf 23 = .ok (.getfield 134, 3) := by decide +kernel
theorem dX12_kindOf_26 : decode cX12_kindOf 26 = .ok (.ireturn, 1) := by decide +kernel
theorem dX12_once_0 : decode cX12_once 0 = .ok (.aload_n 0, 1) := by decide +kernel
theorem dX12_once_1 : decode cX12_once 1 = .ok (.getfield 146, 3) := by decide +kernel
theorem dX12_once_4 : decode cX12_once 4 = .ok (.ifCond .ne 17, 3) := by decide +kernel
theorem dX12_once_7 : decode cX12_once 7 = .ok (.aload_n 0, 1) := by decide +kernel
theorem dX12_once_8 : decode cX12_once 8 = .ok (.getfield 40, 3) := by decide +kernel
theorem dX12_once_11 : decode cX12_once 11 = .ok (.iload_n 1, 1) := by decide +kernel
theorem dX12_once_12 : decode cX12_once 12 = .ok (.baload, 1) := by decide +kernel
theorem dX12_once_13 : decode cX12_once 13 = .ok (.ifCond .eq 8, 3) := by decide +kernel
theorem dX12_once_16 : decode cX12_once 16 = .ok (.aload_n 0, 1) := by decide +kernel
theorem dX12_once_17 : decode cX12_once 17 = .ok (.iconst 4, 1) := by decide +kernel
theorem dX12_once_18 : decode cX12_once 18 = .ok (.invokevirtual 152, 3) := by decide +kernel
theorem dX12_once_21 : decode cX12_once 21 = .ok (.aload_n 0, 1) := by decide +kernel
theorem dX12_once_22 : decode cX12_once 22 = .ok (.getfield 40, 3) := by decide +kernel
theorem dX12_once_25 : decode cX12_once 25 = .ok (.iload_n 1, 1) := by decide +kernel
theorem dX12_once_26 : decode cX12_once 26 = .ok (.iconst 1, 1) := by decide +kernel
theorem dX12_once_27 : decode cX12_once 27 = .ok (.bastore, 1) := by decide +kernel
theorem dX12_once_28 : decode cX12_once 28 = .ok (.return_, 1) := by decide +kernel
theorem dX12_kindClause_0 : decode cX12_kindClause 0 = .ok (.aload_n 0, 1) := by decide +kernel
theorem dX12_kindClause_1 : decode cX12_kindClause 1 = .ok (.invokevirtual 158, 3) := by decide +kernel
theorem dX12_kindClause_4 : decode cX12_kindClause 4 = .ok (.istore_n 1, 1) := by decide +kernel
theorem dX12_kindClause_5 : decode cX12_kindClause 5 = .ok (.aload_n 0, 1) := by decide +kernel
theorem dX12_kindClause_6 : decode cX12_kindClause 6 = .ok (.getfield 146, 3) := by decide +kernel
theorem dX12_kindClause_9 : decode cX12_kindClause 9 = .ok (.ifCond .ne 8, 3) := by decide +kernel
theorem dX12_kindClause_12 : decode cX12_kindClause 12 = .ok (.aload_n 0, 1) := by decide +kernel
theorem dX12_kindClause_13 : decode cX12_kindClause 13 = .ok (.iload_n 1, 1) := by decide +kernel
theorem dX12_kindClause_14 : decode cX12_kindClause 14 = .ok (.invokevirtual 162, 3) := by decide +kernel
theorem dX12_kindClause_17 : decode cX12_kindClause 17 = .ok (.aload_n 0, 1) := by decide +kernel
theorem dX12_kindClause_18 : decode cX12_kindClause 18 = .ok (.getfield 146, 3) := by decide +kernel
theorem dX12_kindClause_21 : decode cX12_kindClause 21 = .ok (.ifCond .ne 22, 3) := by decide +kernel
theorem dX12_kindClause_24 : decode cX12_kindClause 24 = .ok (.aload_n 0, 1) := by decide +kernel
theorem dX12_kindClause_25 : decode cX12_kindClause 25 = .ok (.invokevirtual 155, 3) := by decide +kernel
theorem dX12_kindClause_28 : decode cX12_kindClause 28 = .ok (.aload_n 0, 1) := by decide +kernel
theorem dX12_kindClause_29 : decode cX12_kindClause 29 = .ok (.iconst 1, 1) := by decide +kernel
theorem dX12_kindClause_30 : decode cX12_kindClause 30 = .ok (.bipush 99, 2) := by decide +kernel
theorem dX12_kindClause_32 : decode cX12_kindClause 32 = .ok (.invokevirtual 165, 3) := by decide +kernel
theorem dX12_kindClause_35 : decode cX12_kindClause 35 = .ok (.istore_n 2, 1) := by decide +kernel
theorem dX12_kindClause_36 : decode cX12_kindClause 36 = .ok (.aload_n 0, 1) := by decide +kernel
theorem dX12_kindClause_37 : decode cX12_kindClause 37 = .ok (.getfield 44, 3) := by decide +kernel
theorem dX12_kindClause_40 : decode cX12_kindClause 40 = .ok (.iload_n 1, 1) := by decide +kernel
theorem dX12_kindClause_41 : decode cX12_kindClause 41 = .ok (.iload_n 2, 1) := by decide +kernel
theorem dX12_kindClause_42 : decode cX12_kindClause 42 = .ok (.iastore, 1) := by decide +kernel
theorem dX12_kindClause_43 : decode cX12_kindClause 43 = .ok (.return_, 1) := by decide +kernel
theorem dX12_chainClause_0 : decode cX12_chainClause 0 = .ok (.aload_n 0, 1) := by decide +kernel
theorem dX12_chainClause_1 : decode cX12_chainClause 1 = .ok (.getfield 124, 3) := by decide +kernel
theorem dX12_chainClause_4 : decode cX12_chainClause 4 = .ok (.iconst 3, 1) := by decide +kernel
theorem dX12_chainClause_5 : decode cX12_chainClause 5 = .ok (.if_icmp .ne 29, 3) := by decide +kernel
theorem dX12_chainClause_8 : decode cX12_chainClause 8 = .ok (.aload_n 0, 1) := by decide +kernel
theorem dX12_chainClause_9 : decode cX12_chainClause 9 = .ok (.getfield 134, 3) := by decide +kernel
theorem dX12_chainClause_12 : decode cX12_chainClause 12 = .ok (.i2l, 1) := by decide +kernel
theorem dX12_chainClause_13 : decode cX12_chainClause 13 = .ok (.lconst 0, 1) := by decide +kernel
theorem dX12_chainClause_14 : decode cX12_chainClause 14 = .ok (.ldc2_w 169, 3) := by decide +kernel
theorem dX12_chainClause_17 : decode cX12_chainClause 17 = .ok (.invokestatic 78, 3) := by decide +kernel
theorem dX12_chainClause_20 : decode cX12_chainClause 20 = .ok (.ifCond .eq 14, 3) := by decide +kernel
theorem dX12_chainClause_23 : decode cX12_chainClause 23 = .ok (.aload_n 0, 1) := by decide +kernel
theorem dX12_chainClause_24 : decode cX12_chainClause 24 = .ok (.bipush 6, 2) := by decide +kernel
theorem dX12_chainClause_26 : decode cX12_chainClause 26 = .ok (.aload_n 0, 1) := by decide +kernel
theorem dX12_chainClause_27 : decode cX12_chainClause 27 = .ok (.getfield 134, 3) := by decide +kernel
theorem dX12_chainClause_30 : decode cX12_chainClause 30 = .ok (.iadd, 1) := by decide +kernel
theorem dX12_chainClause_31 : decode cX12_chainClause 31 = .ok (.invokevirtual 162, 3) := by decide +kernel
theorem dX12_chainClause_34 : decode cX12_chainClause 34 = .ok (.aload_n 0, 1) := by decide +kernel
theorem dX12_chainClause_35 : decode cX12_chainClause 35 = .ok (.iconst 0, 1) := by decide +kernel
theorem dX12_chainClause_36 : decode cX12_chainClause 36 = .ok (.iconst 4, 1) := by decide +kernel
theorem dX12_chainClause_37 : decode cX12_chainClause 37 = .ok (.invokevirtual 165, 3) := by decide +kernel
theorem dX12_chainClause_40 : decode cX12_chainClause 40 = .ok (.istore_n 1, 1) := by decide +kernel
theorem dX12_chainClause_41 : decode cX12_chainClause 41 = .ok (.bipush 6, 2) := by decide +kernel
theorem dX12_chainClause_43 : decode cX12_chainClause 43 = .ok (.bipush 6, 2) := by decide +kernel
theorem dX12_chainClause_45 : decode cX12_chainClause 45 = .ok (.iload_n 1, 1) := by decide +kernel
theorem dX12_chainClause_46 : decode cX12_chainClause 46 = .ok (.imul, 1) := by decide +kernel
theorem dX12_chainClause_47 : decode cX12_chainClause 47 = .ok (.iadd, 1) := by decide +kernel
theorem dX12_chainClause_48 : decode cX12_chainClause 48 = .ok (.istore_n 2, 1) := by decide +kernel
theorem dX12_chainClause_49 : decode cX12_chainClause 49 = .ok (.aload_n 0, 1) := by decide +kernel
theorem dX12_chainClause_50 : decode cX12_chainClause 50 = .ok (.invokevirtual 158, 3) := by decide +kernel
theorem dX12_chainClause_53 : decode cX12_chainClause 53 = .ok (.istore_n 3, 1) := by decide +kernel
theorem dX12_chainClause_54 : decode cX12_chainClause 54 = .ok (.aload_n 0, 1) := by decide +kernel
theorem dX12_chainClause_55 : decode cX12_chainClause 55 = .ok (.getfield 146, 3) := by decide +kernel
theorem dX12_chainClause_58 : decode cX12_chainClause 58 = .ok (.ifCond .ne 7, 3) := by decide +kernel
theorem dX12_chainClause_61 : decode cX12_chainClause 61 = .ok (.aload_n 0, 1) := by decide +kernel
theorem dX12_chainClause_62 : decode cX12_chainClause 62 = .ok (.invokevirtual 155, 3) := by decide +kernel
theorem dX12_chainClause_65 : decode cX12_chainClause 65 = .ok (.aload_n 0, 1) := by decide +kernel
theorem dX12_chainClause_66 : decode cX12_chainClause 66 = .ok (.iconst 1, 1) := by decide +kernel
theorem dX12_chainClause_67 : decode cX12_chainClause 67 = .ok (.bipush 9, 2) := by decide +kernel
theorem dX12_chainClause_69 : decode cX12_chainClause 69 = .ok (.invokevirtual 165, 3) := by decide +kernel
theorem dX12_chainClause_72 : decode cX12_chainClause 72 = .ok (.istore 4, 2) := by decide +kernel
theorem dX12_chainClause_74 : decode cX12_chainClause 74 = .ok (.aload_n 0, 1) := by decide +kernel
theorem dX12_chainClause_75 : decode cX12_chainClause 75 = .ok (.iconst 1, 1) := by decide +kernel
theorem dX12_chainClause_76 : decode cX12_chainClause 76 = .ok (.iconst 2, 1) := by decide +kernel
theorem dX12_chainClause_77 : decode cX12_chainClause 77 = .ok (.invokevirtual 171, 3) := by decide +kernel
theorem dX12_chainClause_80 : decode cX12_chainClause 80 = .ok (.aload_n 0, 1) := by decide +kernel
theorem dX12_chainClause_81 : decode cX12_chainClause 81 = .ok (.invokevirtual 158, 3) := by decide +kernel
theorem dX12_chainClause_84 : decode cX12_chainClause 84 = .ok (.istore 5, 2) := by decide +kernel
theorem dX12_chainClause_86 : decode cX12_chainClause 86 = .ok (.aload_n 0, 1) := by decide +kernel
theorem dX12_chainClause_87 : decode cX12_chainClause 87 = .ok (.getfield 146, 3) := by decide +kernel
theorem dX12_chainClause_90 : decode cX12_chainClause 90 = .ok (.ifCond .ne 14, 3) := by decide +kernel
theorem dX12_chainClause_93 : decode cX12_chainClause 93 = .ok (.iload 5, 2) := by decide +kernel
theorem dX12_chainClause_95 : decode cX12_chainClause 95 = .ok (.iload_n 3, 1) := by decide +kernel
theorem dX12_chainClause_96 : decode cX12_chainClause 96 = .ok (.if_icmp .ne 8, 3) := by decide +kernel
theorem dX12_chainClause_99 : decode cX12_chainClause 99 = .ok (.aload_n 0, 1) := by decide +kernel
theorem dX12_chainClause_100 : decode cX12_chainClause 100 = .ok (.iconst 3, 1) := by decide +kernel
theorem dX12_chainClause_101 : decode cX12_chainClause 101 = .ok (.invokevirtual 152, 3) := by decide +kernel
theorem dX12_chainClause_104 : decode cX12_chainClause 104 = .ok (.aload_n 0, 1) := by decide +kernel
theorem dX12_chainClause_105 : decode cX12_chainClause 105 = .ok (.getfield 146, 3) := by decide +kernel
theorem dX12_chainClause_108 : decode cX12_chainClause 108 = .ok (.ifCond .ne 7, 3) := by decide +kernel
theorem dX12_chainClause_111 : decode cX12_chainClause 111 = .ok (.aload_n 0, 1) := by decide +kernel
theorem dX12_chainClause_112 : decode cX12_chainClause 112 = .ok (.invokevirtual 155, 3) := by decide +kernel
theorem dX12_chainClause_115 : decode cX12_chainClause 115 = .ok (.aload_n 0, 1) := by decide +kernel
theorem dX12_chainClause_116 : decode cX12_chainClause 116 = .ok (.iconst 1, 1) := by decide +kernel
theorem dX12_chainClause_117 : decode cX12_chainClause 117 = .ok (.bipush 9, 2) := by decide +kernel
theorem dX12_chainClause_119 : decode cX12_chainClause 119 = .ok (.invokevirtual 165, 3) := by decide +kernel
theorem dX12_chainClause_122 : decode cX12_chainClause 122 = .ok (.istore 6, 2) := by decide +kernel
theorem dX12_chainClause_124 : decode cX12_chainClause 124 = .ok (.aload_n 0, 1) := by decide +kernel
theorem dX12_chainClause_125 : decode cX12_chainClause 125 = .ok (.iconst 1, 1) := by decide +kernel
theorem dX12_chainClause_126 : decode cX12_chainClause 126 = .ok (.iconst 3, 1) := by decide +kernel
theorem dX12_chainClause_127 : decode cX12_chainClause 127 = .ok (.invokevirtual 171, 3) := by decide +kernel
theorem dX12_chainClause_130 : decode cX12_chainClause 130 = .ok (.aload_n 0, 1) := by decide +kernel
theorem dX12_chainClause_131 : decode cX12_chainClause 131 = .ok (.iconst 0, 1) := by decide +kernel
theorem dX12_chainClause_132 : decode cX12_chainClause 132 = .ok (.sipush 999, 3) := by decide +kernel
theorem dX12_chainClause_135 : decode cX12_chainClause 135 = .ok (.invokevirtual 165, 3) := by decide +kernel
theorem dX12_chainClause_138 : decode cX12_chainClause 138 = .ok (.istore 7, 2) := by decide +kernel
theorem dX12_chainClause_140 : decode cX12_chainClause 140 = .ok (.aload_n 0, 1) := by decide +kernel
theorem dX12_chainClause_141 : decode cX12_chainClause 141 = .ok (.getfield 146, 3) := by decide +kernel
theorem dX12_chainClause_144 : decode cX12_chainClause 144 = .ok (.ifCond .ne 59, 3) := by decide +kernel
theorem dX12_chainClause_147 : decode cX12_chainClause 147 = .ok (.aload_n 0, 1) := by decide +kernel
theorem dX12_chainClause_148 : decode cX12_chainClause 148 = .ok (.getfield 44, 3) := by decide +kernel
theorem dX12_chainClause_151 : decode cX12_chainClause 151 = .ok (.iload_n 2, 1) := by decide +kernel
theorem dX12_chainClause_152 : decode cX12_chainClause 152 = .ok (.iconst 1, 1) := by decide +kernel
theorem dX12_chainClause_153 : decode cX12_chainClause 153 = .ok (.iastore, 1) := by decide +kernel
theorem dX12_chainClause_154 : decode cX12_chainClause 154 = .ok (.aload_n 0, 1) := by decide +kernel
theorem dX12_chainClause_155 : decode cX12_chainClause 155 = .ok (.getfield 44, 3) := by decide +kernel
theorem dX12_chainClause_158 : decode cX12_chainClause 158 = .ok (.iload_n 2, 1) := by decide +kernel
theorem dX12_chainClause_159 : decode cX12_chainClause 159 = .ok (.iconst 1, 1) := by decide +kernel
theorem dX12_chainClause_160 : decode cX12_chainClause 160 = .ok (.iadd, 1) := by decide +kernel
theorem dX12_chainClause_161 : decode cX12_chainClause 161 = .ok (.iload_n 3, 1) := by decide +kernel
theorem dX12_chainClause_162 : decode cX12_chainClause 162 = .ok (.iastore, 1) := by decide +kernel
theorem dX12_chainClause_163 : decode cX12_chainClause 163 = .ok (.aload_n 0, 1) := by decide +kernel
theorem dX12_chainClause_164 : decode cX12_chainClause 164 = .ok (.getfield 44, 3) := by decide +kernel
theorem dX12_chainClause_167 : decode cX12_chainClause 167 = .ok (.iload_n 2, 1) := by decide +kernel
theorem dX12_chainClause_168 : decode cX12_chainClause 168 = .ok (.iconst 2, 1) := by decide +kernel
theorem dX12_chainClause_169 : decode cX12_chainClause 169 = .ok (.iadd, 1) := by decide +kernel
theorem dX12_chainClause_170 : decode cX12_chainClause 170 = .ok (.iload 4, 2) := by decide +kernel
theorem dX12_chainClause_172 : decode cX12_chainClause 172 = .ok (.iastore, 1) := by decide +kernel
theorem dX12_chainClause_173 : decode cX12_chainClause 173 = .ok (.aload_n 0, 1) := by decide +kernel
theorem dX12_chainClause_174 : decode cX12_chainClause 174 = .ok (.getfield 44, 3) := by decide +kernel
theorem dX12_chainClause_177 : decode cX12_chainClause 177 = .ok (.iload_n 2, 1) := by decide +kernel
theorem dX12_chainClause_178 : decode cX12_chainClause 178 = .ok (.iconst 3, 1) := by decide +kernel
theorem dX12_chainClause_179 : decode cX12_chainClause 179 = .ok (.iadd, 1) := by decide +kernel
theorem dX12_chainClause_180 : decode cX12_chainClause 180 = .ok (.iload 5, 2) := by decide +kernel
theorem dX12_chainClause_182 : decode cX12_chainClause 182 = .ok (.iastore, 1) := by decide +kernel
theorem dX12_chainClause_183 : decode cX12_chainClause 183 = .ok (.aload_n 0, 1) := by decide +kernel
theorem dX12_chainClause_184 : decode cX12_chainClause 184 = .ok (.getfield 44, 3) := by decide +kernel
theorem dX12_chainClause_187 : decode cX12_chainClause 187 = .ok (.iload_n 2, 1) := by decide +kernel
theorem dX12_chainClause_188 : decode cX12_chainClause 188 = .ok (.iconst 4, 1) := by decide +kernel
theorem dX12_chainClause_189 : decode cX12_chainClause 189 = .ok (.iadd, 1) := by decide +kernel
theorem dX12_chainClause_190 : decode cX12_chainClause 190 = .ok (.iload 6, 2) := by decide +kernel
theorem dX12_chainClause_192 : decode cX12_chainClause 192 = .ok (.iastore, 1) := by decide +kernel
theorem dX12_chainClause_193 : decode cX12_chainClause 193 = .ok (.aload_n 0, 1) := by decide +kernel
theorem dX12_chainClause_194 : decode cX12_chainClause 194 = .ok (.getfield 44, 3) := by decide +kernel
theorem dX12_chainClause_197 : decode cX12_chainClause 197 = .ok (.iload_n 2, 1) := by decide +kernel
theorem dX12_chainClause_198 : decode cX12_chainClause 198 = .ok (.iconst 5, 1) := by decide +kernel
theorem dX12_chainClause_199 : decode cX12_chainClause 199 = .ok (.iadd, 1) := by decide +kernel
theorem dX12_chainClause_200 : decode cX12_chainClause 200 = .ok (.iload 7, 2) := by decide +kernel
theorem dX12_chainClause_202 : decode cX12_chainClause 202 = .ok (.iastore, 1) := by decide +kernel
theorem dX12_chainClause_203 : decode cX12_chainClause 203 = .ok (.return_, 1) := by decide +kernel
theorem dX12_tableClause_0 : decode cX12_tableClause 0 = .ok (.iload_n 1, 1) := by decide +kernel
theorem dX12_tableClause_1 : decode cX12_tableClause 1 = .ok (.iconst 4, 1) := by decide +kernel
theorem dX12_tableClause_2 : decode cX12_tableClause 2 = .ok (.if_icmp .ne 7, 3) := by decide +kernel
theorem dX12_tableClause_5 : decode cX12_tableClause 5 = .ok (.iconst 0, 1) := by decide +kernel
theorem dX12_tableClause_6 : decode cX12_tableClause 6 = .ok (.goto 4, 3) := by decide +kernel
theorem dX12_tableClause_9 : decode cX12_tableClause 9 = .ok (.iconst 1, 1) := by decide +kernel
theorem dX12_tableClause_10 : decode cX12_tableClause 10 = .ok (.istore_n 2, 1) := by decide +kernel
theorem dX12_tableClause_11 : decode cX12_tableClause 11 = .ok (.iload_n 1, 1) := by decide +kernel
theorem dX12_tableClause_12 : decode cX12_tableClause 12 = .ok (.bipush 6, 2) := by decide +kernel
theorem dX12_tableClause_14 : decode cX12_tableClause 14 = .ok (.if_icmp .ne 46, 3) := by decide +kernel
theorem dX12_tableClause_17 : decode cX12_tableClause 17 = .ok (.aload_n 0, 1) := by decide +kernel
theorem dX12_tableClause_18 : decode cX12_tableClause 18 = .ok (.getfield 124, 3) := by decide +kernel
theorem dX12_tableClause_21 : decode cX12_tableClause 21 = .ok (.iconst 3, 1) := by decide +kernel
theorem dX12_tableClause_22 : decode cX12_tableClause 22 = .ok (.if_icmp .ne 29, 3) := by decide +kernel
theorem dX12_tableClause_25 : decode cX12_tableClause 25 = .ok (.aload_n 0, 1) := by decide +kernel
theorem dX12_tableClause_26 : decode cX12_tableClause 26 = .ok (.getfield 134, 3) := by decide +kernel
theorem dX12_tableClause_29 : decode cX12_tableClause 29 = .ok (.i2l, 1) := by decide +kernel
theorem dX12_tableClause_30 : decode cX12_tableClause 30 = .ok (.lconst 0, 1) := by decide +kernel
theorem dX12_tableClause_31 : decode cX12_tableClause 31 = .ok (.ldc2_w 169, 3) := by decide +kernel
theorem dX12_tableClause_34 : decode cX12_tableClause 34 = .ok (.invokestatic 78, 3) := by decide +kernel
theorem dX12_tableClause_37 : decode cX12_tableClause 37 = .ok (.ifCond .eq 14, 3) := by decide +kernel
theorem dX12_tableClause_40 : decode cX12_tableClause 40 = .ok (.aload_n 0, 1) := by decide +kernel
theorem dX12_tableClause_41 : decode cX12_tableClause 41 = .ok (.bipush 13, 2) := by decide +kernel
theorem dX12_tableClause_43 : decode cX12_tableClause 43 = .ok (.aload_n 0, 1) := by decide +kernel
theorem dX12_tableClause_44 : decode cX12_tableClause 44 = .ok (.getfield 134, 3) := by decide +kernel
theorem dX12_tableClause_47 : decode cX12_tableClause 47 = .ok (.iadd, 1) := by decide +kernel
theorem dX12_tableClause_48 : decode cX12_tableClause 48 = .ok (.invokevirtual 162, 3) := by decide +kernel
theorem dX12_tableClause_51 : decode cX12_tableClause 51 = .ok (.iconst 2, 1) := by decide +kernel
theorem dX12_tableClause_52 : decode cX12_tableClause 52 = .ok (.aload_n 0, 1) := by decide +kernel
theorem dX12_tableClause_53 : decode cX12_tableClause 53 = .ok (.iconst 0, 1) := by decide +kernel
theorem dX12_tableClause_54 : decode cX12_tableClause 54 = .ok (.iconst 4, 1) := by decide +kernel
theorem dX12_tableClause_55 : decode cX12_tableClause 55 = .ok (.invokevirtual 165, 3) := by decide +kernel
theorem dX12_tableClause_58 : decode cX12_tableClause 58 = .ok (.iadd, 1) := by decide +kernel
theorem dX12_tableClause_59 : decode cX12_tableClause 59 = .ok (.istore_n 2, 1) := by decide +kernel
theorem dX12_tableClause_60 : decode cX12_tableClause 60 = .ok (.bipush 36, 2) := by decide +kernel
theorem dX12_tableClause_62 : decode cX12_tableClause 62 = .ok (.bipush 25, 2) := by decide +kernel
theorem dX12_tableClause_64 : decode cX12_tableClause 64 = .ok (.iload_n 2, 1) := by decide +kernel
theorem dX12_tableClause_65 : decode cX12_tableClause 65 = .ok (.imul, 1) := by decide +kernel
theorem dX12_tableClause_66 : decode cX12_tableClause 66 = .ok (.iadd, 1) := by decide +kernel
theorem dX12_tableClause_67 : decode cX12_tableClause 67 = .ok (.istore_n 3, 1) := by decide +kernel
theorem dX12_tableClause_68 : decode cX12_tableClause 68 = .ok (.iconst 0, 1) := by decide +kernel
theorem dX12_tableClause_69 : decode cX12_tableClause 69 = .ok (.istore 4, 2) := by decide +kernel
theorem dX12_tableClause_71 : decode cX12_tableClause 71 = .ok (.iconst (-1), 1) := by decide +kernel
theorem dX12_tableClause_72 : decode cX12_tableClause 72 = .ok (.istore 5, 2) := by decide +kernel
theorem dX12_tableClause_74 : decode cX12_tableClause 74 = .ok (.aload_n 0, 1) := by decide +kernel
theorem dX12_tableClause_75 : decode cX12_tableClause 75 = .ok (.getfield 146, 3) := by decide +kernel
theorem dX12_tableClause_78 : decode cX12_tableClause 78 = .ok (.ifCond .ne 7, 3) := by decide +kernel
theorem dX12_tableClause_81 : decode cX12_tableClause 81 = .ok (.iconst 1, 1) := by decide +kernel
theorem dX12_tableClause_82 : decode cX12_tableClause 82 = .ok (.goto 4, 3) := by decide +kernel
theorem dX12_tableClause_85 : decode cX12_tableClause 85 = .ok (.iconst 0, 1) := by decide +kernel
theorem dX12_tableClause_86 : decode cX12_tableClause 86 = .ok (.istore 6, 2) := by decide +kernel
theorem dX12_tableClause_88 : decode cX12_tableClause 88 = .ok (.iload 6, 2) := by decide +kernel
theorem dX12_tableClause_90 : decode cX12_tableClause 90 = .ok (.ifCond .eq 208, 3) := by decide +kernel
theorem dX12_tableClause_93 : decode cX12_tableClause 93 = .ok (.aload_n 0, 1) := by decide +kernel
theorem dX12_tableClause_94 : decode cX12_tableClause 94 = .ok (.getfield 124, 3) := by decide +kernel
theorem dX12_tableClause_97 : decode cX12_tableClause 97 = .ok (.iconst 3, 1) := by decide +kernel
theorem dX12_tableClause_98 : decode cX12_tableClause 98 = .ok (.if_icmp .ne 34, 3) := by decide +kernel
theorem dX12_tableClause_101 : decode cX12_tableClause 101 = .ok (.iload 4, 2) := by decide +kernel
theorem dX12_tableClause_103 : decode cX12_tableClause 103 = .ok (.bipush 8, 2) := by decide +kernel
theorem dX12_tableClause_105 : decode cX12_tableClause 105 = .ok (.if_icmp .ne 27, 3) := by decide +kernel
theorem dX12_tableClause_108 : decode cX12_tableClause 108 = .ok (.aload_n 0, 1) := by decide +kernel
theorem dX12_tableClause_109 : decode cX12_tableClause 109 = .ok (.getfield 134, 3) := by decide +kernel
theorem dX12_tableClause_112 : decode cX12_tableClause 112 = .ok (.i2l, 1) := by decide +kernel
theorem dX12_tableClause_113 : decode cX12_tableClause 113 = .ok (.iload 5, 2) := by decide +kernel
theorem dX12_tableClause_115 : decode cX12_tableClause 115 = .ok (.iconst 1, 1) := by decide +kernel
theorem dX12_tableClause_116 : decode cX12_tableClause 116 = .ok (.iadd, 1) := by decide +kernel
theorem dX12_tableClause_117 : decode cX12_tableClause 117 = .ok (.i2l, 1) := by decide +kernel
theorem dX12_tableClause_118 : decode cX12_tableClause 118 = .ok (.ldc2_w 175, 3) := by decide +kernel
theorem dX12_tableClause_121 : decode cX12_tableClause 121 = .ok (.invokestatic 78, 3) := by decide +kernel
theorem dX12_tableClause_124 : decode cX12_tableClause 124 = .ok (.ifCond .eq 8, 3) := by decide +kernel
theorem dX12_tableClause_127 : decode cX12_tableClause 127 = .ok (.aload_n 0, 1) := by decide +kernel
theorem dX12_tableClause_128 : decode cX12_tableClause 128 = .ok (.iconst 5, 1) := by decide +kernel
theorem dX12_tableClause_129 : decode cX12_tableClause 129 = .ok (.invokevirtual 152, 3) := by decide +kernel
theorem dX12_tableClause_132 : decode cX12_tableClause 132 = .ok (.aload_n 0, 1) := by decide +kernel
theorem dX12_tableClause_133 : decode cX12_tableClause 133 = .ok (.iload 5, 2) := by decide +kernel
theorem dX12_tableClause_135 : decode cX12_tableClause 135 = .ok (.ifCond .ge 7, 3) := by decide +kernel
theorem dX12_tableClause_138 : decode cX12_tableClause 138 = .ok (.iconst 0, 1) := by decide +kernel
theorem dX12_tableClause_139 : decode cX12_tableClause 139 = .ok (.goto 7, 3) := by decide +kernel
theorem dX12_tableClause_142 : decode cX12_tableClause 142 = .ok (.iload 5, 2) := by decide +kernel
theorem dX12_tableClause_144 : decode cX12_tableClause 144 = .ok (.iconst 1, 1) := by decide +kernel
theorem dX12_tableClause_145 : decode cX12_tableClause 145 = .ok (.iadd, 1) := by decide +kernel
theorem dX12_tableClause_146 : decode cX12_tableClause 146 = .ok (.sipush 999, 3) := by decide +kernel
theorem dX12_tableClause_149 : decode cX12_tableClause 149 = .ok (.invokevirtual 165, 3) := by decide +kernel
theorem dX12_tableClause_152 : decode cX12_tableClause 152 = .ok (.istore 7, 2) := by decide +kernel
theorem dX12_tableClause_154 : decode cX12_tableClause 154 = .ok (.aload_n 0, 1) := by decide +kernel
theorem dX12_tableClause_155 : decode cX12_tableClause 155 = .ok (.iconst 4, 1) := by decide +kernel
theorem dX12_tableClause_156 : decode cX12_tableClause 156 = .ok (.bipush 61, 2) := by decide +kernel
theorem dX12_tableClause_158 : decode cX12_tableClause 158 = .ok (.invokevirtual 171, 3) := by decide +kernel
theorem dX12_tableClause_161 : decode cX12_tableClause 161 = .ok (.aload_n 0, 1) := by decide +kernel
theorem dX12_tableClause_162 : decode cX12_tableClause 162 = .ok (.iconst 0, 1) := by decide +kernel
theorem dX12_tableClause_163 : decode cX12_tableClause 163 = .ok (.sipush 9999, 3) := by decide +kernel
theorem dX12_tableClause_166 : decode cX12_tableClause 166 = .ok (.invokevirtual 165, 3) := by decide +kernel
theorem dX12_tableClause_169 : decode cX12_tableClause 169 = .ok (.istore 8, 2) := by decide +kernel
theorem dX12_tableClause_171 : decode cX12_tableClause 171 = .ok (.aload_n 0, 1) := by decide +kernel
theorem dX12_tableClause_172 : decode cX12_tableClause 172 = .ok (.iconst 1, 1) := by decide +kernel
theorem dX12_tableClause_173 : decode cX12_tableClause 173 = .ok (.iconst 2, 1) := by decide +kernel
theorem dX12_tableClause_174 : decode cX12_tableClause 174 = .ok (.invokevirtual 171, 3) := by decide +kernel
theorem dX12_tableClause_177 : decode cX12_tableClause 177 = .ok (.aload_n 0, 1) := by decide +kernel
theorem dX12_tableClause_178 : decode cX12_tableClause 178 = .ok (.iload 8, 2) := by decide +kernel
theorem dX12_tableClause_180 : decode cX12_tableClause 180 = .ok (.sipush 9999, 3) := by decide +kernel
theorem dX12_tableClause_183 : decode cX12_tableClause 183 = .ok (.invokevirtual 165, 3) := by decide +kernel
theorem dX12_tableClause_186 : decode cX12_tableClause 186 = .ok (.istore 9, 2) := by decide +kernel
theorem dX12_tableClause_188 : decode cX12_tableClause 188 = .ok (.aload_n 0, 1) := by decide +kernel
theorem dX12_tableClause_189 : decode cX12_tableClause 189 = .ok (.getfield 146, 3) := by decide +kernel
theorem dX12_tableClause_192 : decode cX12_tableClause 192 = .ok (.ifCond .ne 63, 3) := by decide +kernel
theorem dX12_tableClause_195 : decode cX12_tableClause 195 = .ok (.aload_n 0, 1) := by decide +kernel
theorem dX12_tableClause_196 : decode cX12_tableClause 196 = .ok (.getfield 44, 3) := by decide +kernel
theorem dX12_tableClause_199 : decode cX12_tableClause 199 = .ok (.iload_n 3, 1) := by decide +kernel
theorem dX12_tableClause_200 : decode cX12_tableClause 200 = .ok (.iconst 1, 1) := by decide +kernel
theorem dX12_tableClause_201 : decode cX12_tableClause 201 = .ok (.iadd, 1) := by decide +kernel
theorem dX12_tableClause_202 : decode cX12_tableClause 202 = .ok (.iconst 3, 1) := by decide +kernel
theorem dX12_tableClause_203 : decode cX12_tableClause 203 = .ok (.iload 4, 2) := by decide +kernel
theorem dX12_tableClause_205 : decode cX12_tableClause 205 = .ok (.imul, 1) := by decide +kernel
theorem dX12_tableClause_206 : decode cX12_tableClause 206 = .ok (.iadd, 1) := by decide +kernel
theorem dX12_tableClause_207 : decode cX12_tableClause 207 = .ok (.iload 7, 2) := by decide +kernel
theorem dX12_tableClause_209 : decode cX12_tableClause 209 = .ok (.iastore, 1) := by decide +kernel
theorem dX12_tableClause_210 : decode cX12_tableClause 210 = .ok (.aload_n 0, 1) := by decide +kernel
theorem dX12_tableClause_211 : decode cX12_tableClause 211 = .ok (.getfield 44, 3) := by decide +kernel
theorem dX12_tableClause_214 : decode cX12_tableClause 214 = .ok (.iload_n 3, 1) := by decide +kernel
theorem dX12_tableClause_215 : decode cX12_tableClause 215 = .ok (.iconst 2, 1) := by decide +kernel
theorem dX12_tableClause_216 : decode cX12_tableClause 216 = .ok (.iadd, 1) := by decide +kernel
theorem dX12_tableClause_217 : decode cX12_tableClause 217 = .ok (.iconst 3, 1) := by decide +kernel
theorem dX12_tableClause_218 : decode cX12_tableClause 218 = .ok (.iload 4, 2) := by decide +kernel
theorem dX12_tableClause_220 : decode cX12_tableClause 220 = .ok (.imul, 1) := by decide +kernel
theorem dX12_tableClause_221 : decode cX12_tableClause 221 = .ok (.iadd, 1) := by decide +kernel
theorem dX12_tableClause_222 : decode cX12_tableClause 222 = .ok (.iload 8, 2) := by decide +kernel
theorem dX12_tableClause_224 : decode cX12_tableClause 224 = .ok (.iastore, 1) := by decide +kernel
theorem dX12_tableClause_225 : decode cX12_tableClause 225 = .ok (.aload_n 0, 1) := by decide +kernel
theorem dX12_tableClause_226 : decode cX12_tableClause 226 = .ok (.getfield 44, 3) := by decide +kernel
theorem dX12_tableClause_229 : decode cX12_tableClause 229 = .ok (.iload_n 3, 1) := by decide +kernel
theorem dX12_tableClause_230 : decode cX12_tableClause 230 = .ok (.iconst 3, 1) := by decide +kernel
theorem dX12_tableClause_231 : decode cX12_tableClause 231 = .ok (.iadd, 1) := by decide +kernel
theorem dX12_tableClause_232 : decode cX12_tableClause 232 = .ok (.iconst 3, 1) := by decide +kernel
theorem dX12_tableClause_233 : decode cX12_tableClause 233 = .ok (.iload 4, 2) := by decide +kernel
theorem dX12_tableClause_235 : decode cX12_tableClause 235 = .ok (.imul, 1) := by decide +kernel
theorem dX12_tableClause_236 : decode cX12_tableClause 236 = .ok (.iadd, 1) := by decide +kernel
theorem dX12_tableClause_237 : decode cX12_tableClause 237 = .ok (.iload 9, 2) := by decide +kernel
theorem dX12_tableClause_239 : decode cX12_tableClause 239 = .ok (.iastore, 1) := by decide +kernel
theorem dX12_tableClause_240 : decode cX12_tableClause 240 = .ok (.iinc 4 1, 3) := by decide +kernel
theorem dX12_tableClause_243 : decode cX12_tableClause 243 = .ok (.aload_n 0, 1) := by decide +kernel
theorem dX12_tableClause_244 : decode cX12_tableClause 244 = .ok (.getfield 44, 3) := by decide +kernel
theorem dX12_tableClause_247 : decode cX12_tableClause 247 = .ok (.iload_n 3, 1) := by decide +kernel
theorem dX12_tableClause_248 : decode cX12_tableClause 248 = .ok (.iload 4, 2) := by decide +kernel
theorem dX12_tableClause_250 : decode cX12_tableClause 250 = .ok (.iastore, 1) := by decide +kernel
theorem dX12_tableClause_251 : decode cX12_tableClause 251 = .ok (.iload 7, 2) := by decide +kernel
theorem dX12_tableClause_253 : decode cX12_tableClause 253 = .ok (.istore 5, 2) := by decide +kernel
theorem dX12_tableClause_255 : decode cX12_tableClause 255 = .ok (.aload_n 0, 1) := by decide +kernel
theorem dX12_tableClause_256 : decode cX12_tableClause 256 = .ok (.getfield 146, 3) := by decide +kernel
theorem dX12_tableClause_259 : decode cX12_tableClause 259 = .ok (.ifCond .ne 24, 3) := by decide +kernel
theorem dX12_tableClause_262 : decode cX12_tableClause 262 = .ok (.aload_n 0, 1) := by decide +kernel
theorem dX12_tableClause_263 : decode cX12_tableClause 263 = .ok (.getfield 124, 3) := by decide +kernel
theorem dX12_tableClause_266 : decode cX12_tableClause 266 = .ok (.iconst 4, 1) := by decide +kernel
theorem dX12_tableClause_267 : decode cX12_tableClause 267 = .ok (.if_icmp .ne 16, 3) := by decide +kernel
theorem dX12_tableClause_270 : decode cX12_tableClause 270 = .ok (.aload_n 0, 1) := by decide +kernel
theorem dX12_tableClause_271 : decode cX12_tableClause 271 = .ok (.getfield 134, 3) := by decide +kernel
theorem dX12_tableClause_274 : decode cX12_tableClause 274 = .ok (.bipush 44, 2) := by decide +kernel
theorem dX12_tableClause_276 : decode cX12_tableClause 276 = .ok (.if_icmp .ne 7, 3) := by decide +kernel
theorem dX12_tableClause_279 : decode cX12_tableClause 279 = .ok (.iconst 1, 1) := by decide +kernel
theorem dX12_tableClause_280 : decode cX12_tableClause 280 = .ok (.goto 4, 3) := by decide +kernel
theorem dX12_tableClause_283 : decode cX12_tableClause 283 = .ok (.iconst 0, 1) := by decide +kernel
theorem dX12_tableClause_284 : decode cX12_tableClause 284 = .ok (.istore 6, 2) := by decide +kernel
theorem dX12_tableClause_286 : decode cX12_tableClause 286 = .ok (.iload 6, 2) := by decide +kernel
theorem dX12_tableClause_288 : decode cX12_tableClause 288 = .ok (.ifCond .eq 7, 3) := by decide +kernel
theorem dX12_tableClause_291 : decode cX12_tableClause 291 = .ok (.aload_n 0, 1) := by decide +kernel
theorem dX12_tableClause_292 : decode cX12_tableClause 292 = .ok (.invokevirtual 155, 3) := by decide +kernel
theorem dX12_tableClause_295 : decode cX12_tableClause 295 = .ok (.goto (-207), 3) := by decide +kernel
theorem dX12_tableClause_298 : decode cX12_tableClause 298 = .ok (.return_, 1) := by decide +kernel
theorem dX12_clause_0 : decode cX12_clause 0 = .ok (.aload_n 0, 1) := by decide +kernel
theorem dX12_clause_1 : decode cX12_clause 1 = .ok (.getfield 124, 3) := by decide +kernel
theorem dX12_clause_4 : decode cX12_clause 4 = .ok (.iconst 1, 1) := by decide +kernel
theorem dX12_clause_5 : decode cX12_clause 5 = .ok (.if_icmp .ne 19, 3) := by decide +kernel
theorem dX12_clause_8 : decode cX12_clause 8 = .ok (.aload_n 0, 1) := by decide +kernel
theorem dX12_clause_9 : decode cX12_clause 9 = .ok (.getfield 134, 3) := by decide +kernel
theorem dX12_clause_12 : decode cX12_clause 12 = .ok (.iconst 2, 1) := by decide +kernel
theorem dX12_clause_13 : decode cX12_clause 13 = .ok (.if_icmp .eq 11, 3) := by decide +kernel
theorem dX12_clause_16 : decode cX12_clause 16 = .ok (.aload_n 0, 1) := by decide +kernel
theorem dX12_clause_17 : decode cX12_clause 17 = .ok (.getfield 134, 3) := by decide +kernel
theorem dX12_clause_20 : decode cX12_clause 20 = .ok (.iconst 3, 1) := by decide +kernel
theorem dX12_clause_21 : decode cX12_clause 21 = .ok (.if_icmp .ne 9, 3) := by decide +kernel
theorem dX12_clause_24 : decode cX12_clause 24 = .ok (.aload_n 0, 1) := by decide +kernel
theorem dX12_clause_25 : decode cX12_clause 25 = .ok (.iconst 1, 1) := by decide +kernel
theorem dX12_clause_26 : decode cX12_clause 26 = .ok (.invokevirtual 152, 3) := by decide +kernel
theorem dX12_clause_29 : decode cX12_clause 29 = .ok (.return_, 1) := by decide +kernel
theorem dX12_clause_30 : decode cX12_clause 30 = .ok (.aload_n 0, 1) := by decide +kernel
theorem dX12_clause_31 : decode cX12_clause 31 = .ok (.getfield 134, 3) := by decide +kernel
theorem dX12_clause_34 : decode cX12_clause 34 = .ok (.istore_n 1, 1) := by decide +kernel
theorem dX12_clause_35 : decode cX12_clause 35 = .ok (.iload_n 1, 1) := by decide +kernel
theorem dX12_clause_36 : decode cX12_clause 36 = .ok (.iconst 4, 1) := by decide +kernel
theorem dX12_clause_37 : decode cX12_clause 37 = .ok (.if_icmp .eq 8, 3) := by decide +kernel
theorem dX12_clause_40 : decode cX12_clause 40 = .ok (.iload_n 1, 1) := by decide +kernel
theorem dX12_clause_41 : decode cX12_clause 41 = .ok (.iconst 5, 1) := by decide +kernel
theorem dX12_clause_42 : decode cX12_clause 42 = .ok (.if_icmp .ne 19, 3) := by decide +kernel
theorem dX12_clause_45 : decode cX12_clause 45 = .ok (.aload_n 0, 1) := by decide +kernel
theorem dX12_clause_46 : decode cX12_clause 46 = .ok (.iload_n 1, 1) := by decide +kernel
theorem dX12_clause_47 : decode cX12_clause 47 = .ok (.iconst 4, 1) := by decide +kernel
theorem dX12_clause_48 : decode cX12_clause 48 = .ok (.if_icmp .ne 8, 3) := by decide +kernel
theorem dX12_clause_51 : decode cX12_clause 51 = .ok (.bipush 11, 2) := by decide +kernel
theorem dX12_clause_53 : decode cX12_clause 53 = .ok (.goto 5, 3) := by decide +kernel
theorem dX12_clause_56 : decode cX12_clause 56 = .ok (.bipush 12, 2) := by decide +kernel
theorem dX12_clause_58 : decode cX12_clause 58 = .ok (.invokevirtual 162, 3) := by decide +kernel
theorem dX12_clause_61 : decode cX12_clause 61 = .ok (.aload_n 0, 1) := by decide +kernel
theorem dX12_clause_62 : decode cX12_clause 62 = .ok (.getfield 146, 3) := by decide +kernel
theorem dX12_clause_65 : decode cX12_clause 65 = .ok (.ifCond .ne 7, 3) := by decide +kernel
theorem dX12_clause_68 : decode cX12_clause 68 = .ok (.aload_n 0, 1) := by decide +kernel
theorem dX12_clause_69 : decode cX12_clause 69 = .ok (.invokevirtual 155, 3) := by decide +kernel
theorem dX12_clause_72 : decode cX12_clause 72 = .ok (.aload_n 0, 1) := by decide +kernel
theorem dX12_clause_73 : decode cX12_clause 73 = .ok (.getfield 146, 3) := by decide +kernel
theorem dX12_clause_76 : decode cX12_clause 76 = .ok (.ifCond .le 4, 3) := by decide +kernel
theorem dX12_clause_79 : decode cX12_clause 79 = .ok (.return_, 1) := by decide +kernel
theorem dX12_clause_80 : decode cX12_clause 80 = .ok (.iload_n 1, 1) := by decide +kernel
theorem dX12_clause_81 : decode cX12_clause 81 = .ok (.ifCond .ne 10, 3) := by decide +kernel
theorem dX12_clause_84 : decode cX12_clause 84 = .ok (.aload_n 0, 1) := by decide +kernel
theorem dX12_clause_85 : decode cX12_clause 85 = .ok (.invokevirtual 177, 3) := by decide +kernel
theorem dX12_clause_88 : decode cX12_clause 88 = .ok (.goto 20, 3) := by decide +kernel
theorem dX12_clause_91 : decode cX12_clause 91 = .ok (.iload_n 1, 1) := by decide +kernel
theorem dX12_clause_92 : decode cX12_clause 92 = .ok (.iconst 1, 1) := by decide +kernel
theorem dX12_clause_93 : decode cX12_clause 93 = .ok (.if_icmp .ne 10, 3) := by decide +kernel
theorem dX12_clause_96 : decode cX12_clause 96 = .ok (.aload_n 0, 1) := by decide +kernel
theorem dX12_clause_97 : decode cX12_clause 97 = .ok (.invokevirtual 180, 3) := by decide +kernel
theorem dX12_clause_100 : decode cX12_clause 100 = .ok (.goto 8, 3) := by decide +kernel
theorem dX12_clause_103 : decode cX12_clause 103 = .ok (.aload_n 0, 1) := by decide +kernel
theorem dX12_clause_104 : decode cX12_clause 104 = .ok (.iload_n 1, 1) := by decide +kernel
theorem dX12_clause_105 : decode cX12_clause 105 = .ok (.invokevirtual 183, 3) := by decide +kernel
theorem dX12_clause_108 : decode cX12_clause 108 = .ok (.aload_n 0, 1) := by decide +kernel
theorem dX12_clause_109 : decode cX12_clause 109 = .ok (.iconst 4, 1) := by decide +kernel
theorem dX12_clause_110 : decode cX12_clause 110 = .ok (.bipush 59, 2) := by decide +kernel
theorem dX12_clause_112 : decode cX12_clause 112 = .ok (.invokevirtual 171, 3) := by decide +kernel
theorem dX12_clause_115 : decode cX12_clause 115 = .ok (.return_, 1) := by decide +kernel
theorem dX12_isEven_0 : decode cX12_isEven 0 = .ok (.iconst 1, 1) := by decide +kernel
theorem dX12_isEven_1 : decode cX12_isEven 1 = .ok (.istore_n 1, 1) := by decide +kernel
theorem dX12_isEven_2 : decode cX12_isEven 2 = .ok (.iconst 0, 1) := by decide +kernel
theorem dX12_isEven_3 : decode cX12_isEven 3 = .ok (.istore_n 2, 1) := by decide +kernel
theorem dX12_isEven_4 : decode cX12_isEven 4 = .ok (.iload_n 2, 1) := by decide +kernel
theorem dX12_isEven_5 : decode cX12_isEven 5 = .ok (.iconst 5, 1) := by decide +kernel
theorem dX12_isEven_6 : decode cX12_isEven 6 = .ok (.if_icmp .ge 109, 3) := by decide +kernel
theorem dX12_isEven_9 : decode cX12_isEven 9 = .ok (.bipush 6, 2) := by decide +kernel
theorem dX12_isEven_11 : decode cX12_isEven 11 = .ok (.bipush 6, 2) := by decide +kernel
theorem dX12_isEven_13 : decode cX12_isEven 13 = .ok (.iload_n 2, 1) := by decide +kernel
theorem dX12_isEven_14 : decode cX12_isEven 14 = .ok (.imul, 1) := by decide +kernel
theorem dX12_isEven_15 : decode cX12_isEven 15 = .ok (.iadd, 1) := by decide +kernel
theorem dX12_isEven_16 : decode cX12_isEven 16 = .ok (.istore_n 3, 1) := by decide +kernel
theorem dX12_isEven_17 : decode cX12_isEven 17 = .ok (.aload_n 0, 1) := by decide +kernel
theorem dX12_isEven_18 : decode cX12_isEven 18 = .ok (.getfield 44, 3) := by decide +kernel
theorem dX12_isEven_21 : decode cX12_isEven 21 = .ok (.aload_n 0, 1) := by decide +kernel
theorem dX12_isEven_22 : decode cX12_isEven 22 = .ok (.getfield 44, 3) := by decide +kernel
theorem dX12_isEven_25 : decode cX12_isEven 25 = .ok (.iload_n 3, 1) := by decide +kernel
theorem dX12_isEven_26 : decode cX12_isEven 26 = .ok (.iconst 1, 1) := by decide +kernel
theorem dX12_isEven_27 : decode cX12_isEven 27 = .ok (.iadd, 1) := by decide +kernel
theorem dX12_isEven_28 : decode cX12_isEven 28 = .ok (.iaload, 1) := by decide +kernel
theorem dX12_isEven_29 : decode cX12_isEven 29 = .ok (.iaload, 1) := by decide +kernel
theorem dX12_isEven_30 : decode cX12_isEven 30 = .ok (.istore 4, 2) := by decide +kernel
theorem dX12_isEven_32 : decode cX12_isEven 32 = .ok (.aload_n 0, 1) := by decide +kernel
theorem dX12_isEven_33 : decode cX12_isEven 33 = .ok (.getfield 44, 3) := by decide +kernel
theorem dX12_isEven_36 : decode cX12_isEven 36 = .ok (.aload_n 0, 1) := by decide +kernel
theorem dX12_isEven_37 : decode cX12_isEven 37 = .ok (.getfield 44, 3) := by decide +kernel
theorem dX12_isEven_40 : decode cX12_isEven 40 = .ok (.iload_n 3, 1) := by decide +kernel
theorem dX12_isEven_41 : decode cX12_isEven 41 = .ok (.iconst 3, 1) := by decide +kernel
theorem dX12_isEven_42 : decode cX12_isEven 42 = .ok (.iadd, 1) := by decide +kernel
theorem dX12_isEven_43 : decode cX12_isEven 43 = .ok (.iaload, 1) := by decide +kernel
theorem dX12_isEven_44 : decode cX12_isEven 44 = .ok (.iaload, 1) := by decide +kernel
theorem dX12_isEven_45 : decode cX12_isEven 45 = .ok (.istore 5, 2) := by decide +kernel
theorem dX12_isEven_47 : decode cX12_isEven 47 = .ok (.iload_n 1, 1) := by decide +kernel
theorem dX12_isEven_48 : decode cX12_isEven 48 = .ok (.ifCond .eq 59, 3) := by decide +kernel
theorem dX12_isEven_51 : decode cX12_isEven 51 = .ok (.aload_n 0, 1) := by decide +kernel
theorem dX12_isEven_52 : decode cX12_isEven 52 = .ok (.getfield 44, 3) := by decide +kernel
theorem dX12_isEven_55 : decode cX12_isEven 55 = .ok (.iload_n 3, 1) := by decide +kernel
theorem dX12_isEven_56 : decode cX12_isEven 56 = .ok (.iaload, 1) := by decide +kernel
theorem dX12_isEven_57 : decode cX12_isEven 57 = .ok (.ifCond .eq 46, 3) := by decide +kernel
theorem dX12_isEven_60 : decode cX12_isEven 60 = .ok (.aload_n 0, 1) := by decide +kernel
theorem dX12_isEven_61 : decode cX12_isEven 61 = .ok (.getfield 44, 3) := by decide +kernel
theorem dX12_isEven_64 : decode cX12_isEven 64 = .ok (.iload_n 3, 1) := by decide +kernel
theorem dX12_isEven_65 : decode cX12_isEven 65 = .ok (.iconst 2, 1) := by decide +kernel
theorem dX12_isEven_66 : decode cX12_isEven 66 = .ok (.iadd, 1) := by decide +kernel
theorem dX12_isEven_67 : decode cX12_isEven 67 = .ok (.iaload, 1) := by decide +kernel
theorem dX12_isEven_68 : decode cX12_isEven 68 = .ok (.iload 4, 2) := by decide +kernel
theorem dX12_isEven_70 : decode cX12_isEven 70 = .ok (.ifCond .ne 7, 3) := by decide +kernel
theorem dX12_isEven_73 : decode cX12_isEven 73 = .ok (.iconst 1, 1) := by decide +kernel
theorem dX12_isEven_74 : decode cX12_isEven 74 = .ok (.goto 5, 3) := by decide +kernel
theorem dX12_isEven_77 : decode cX12_isEven 77 = .ok (.iload 4, 2) := by decide +kernel
theorem dX12_isEven_79 : decode cX12_isEven 79 = .ok (.imul, 1) := by decide +kernel
theorem dX12_isEven_80 : decode cX12_isEven 80 = .ok (.aload_n 0, 1) := by decide +kernel
theorem dX12_isEven_81 : decode cX12_isEven 81 = .ok (.getfield 44, 3) := by decide +kernel
theorem dX12_isEven_84 : decode cX12_isEven 84 = .ok (.iload_n 3, 1) := by decide +kernel
theorem dX12_isEven_85 : decode cX12_isEven 85 = .ok (.iconst 4, 1) := by decide +kernel
theorem dX12_isEven_86 : decode cX12_isEven 86 = .ok (.iadd, 1) := by decide +kernel
theorem dX12_isEven_87 : decode cX12_isEven 87 = .ok (.iaload, 1) := by decide +kernel
theorem dX12_isEven_88 : decode cX12_isEven 88 = .ok (.iload 5, 2) := by decide +kernel
theorem dX12_isEven_90 : decode cX12_isEven 90 = .ok (.ifCond .ne 7, 3) := by decide +kernel
theorem dX12_isEven_93 : decode cX12_isEven 93 = .ok (.iconst 1, 1) := by decide +kernel
theorem dX12_isEven_94 : decode cX12_isEven 94 = .ok (.goto 5, 3) := by decide +kernel
theorem dX12_isEven_97 : decode cX12_isEven 97 = .ok (.iload 5, 2) := by decide +kernel
theorem dX12_isEven_99 : decode cX12_isEven 99 = .ok (.imul, 1) := by decide +kernel
theorem dX12_isEven_100 : decode cX12_isEven 100 = .ok (.if_icmp .ne 7, 3) := by decide +kernel
theorem dX12_isEven_103 : decode cX12_isEven 103 = .ok (.iconst 1, 1) := by decide +kernel
theorem dX12_isEven_104 : decode cX12_isEven 104 = .ok (.goto 4, 3) := by decide +kernel
theorem dX12_isEven_107 : decode cX12_isEven 107 = .ok (.iconst 0, 1) := by decide +kernel
theorem dX12_isEven_108 : decode cX12_isEven 108 = .ok (.istore_n 1, 1) := by decide +kernel
theorem dX12_isEven_109 : decode cX12_isEven 109 = .ok (.iinc 2 1, 3) := by decide +kernel
theorem dX12_isEven_112 : decode cX12_isEven 112 = .ok (.goto (-108), 3) := by decide +kernel
theorem dX12_isEven_115 : decode cX12_isEven 115 = .ok (.iload_n 1, 1) := by decide +kernel
theorem dX12_isEven_116 : decode cX12_isEven 116 = .ok (.ireturn, 1) := by decide +kernel
theorem dX12_text_0 : decode cX12_text 0 = .ok (.aload_n 0, 1) := by decide +kernel
theorem dX12_text_1 : decode cX12_text 1 = .ok (.getfield 7, 3) := by decide +kernel
theorem dX12_text_4 : decode cX12_text 4 = .ok (.iconst 0, 1) := by decide +kernel
theorem dX12_text_5 : decode cX12_text 5 = .ok (.iaload, 1) := by decide +kernel
theorem dX12_text_6 : decode cX12_text 6 = .ok (.bipush 30, 2) := by decide +kernel
theorem dX12_text_8 : decode cX12_text 8 = .ok (.if_icmp .ne 5, 3) := by decide +kernel
theorem dX12_text_11 : decode cX12_text 11 = .ok (.iconst (-1), 1) := by decide +kernel
theorem dX12_text_12 : decode cX12_text 12 = .ok (.ireturn, 1) := by decide +kernel
theorem dX12_text_13 : decode cX12_text 13 = .ok (.aload_n 0, 1) := by decide +kernel
theorem dX12_text_14 : decode cX12_text 14 = .ok (.aload_n 0, 1) := by decide +kernel
theorem dX12_text_15 : decode cX12_text 15 = .ok (.getfield 86, 3) := by decide +kernel
theorem dX12_text_18 : decode cX12_text 18 = .ok (.putfield 118, 3) := by decide +kernel
theorem dX12_text_21 : decode cX12_text 21 = .ok (.aload_n 0, 1) := by decide +kernel
theorem dX12_text_22 : decode cX12_text 22 = .ok (.iconst 0, 1) := by decide +kernel
theorem dX12_text_23 : decode cX12_text 23 = .ok (.putfield 86, 3) := by decide +kernel
theorem dX12_text_26 : decode cX12_text 26 = .ok (.aload_n 0, 1) := by decide +kernel
theorem dX12_text_27 : decode cX12_text 27 = .ok (.iconst 0, 1) := by decide +kernel
theorem dX12_text_28 : decode cX12_text 28 = .ok (.putfield 115, 3) := by decide +kernel
theorem dX12_text_31 : decode cX12_text 31 = .ok (.aload_n 0, 1) := by decide +kernel
theorem dX12_text_32 : decode cX12_text 32 = .ok (.iconst 0, 1) := by decide +kernel
theorem dX12_text_33 : decode cX12_text 33 = .ok (.putfield 146, 3) := by decide +kernel
theorem dX12_text_36 : decode cX12_text 36 = .ok (.aload_n 0, 1) := by decide +kernel
theorem dX12_text_37 : decode cX12_text 37 = .ok (.iconst (-1), 1) := by decide +kernel
theorem dX12_text_38 : decode cX12_text 38 = .ok (.putfield 149, 3) := by decide +kernel
theorem dX12_text_41 : decode cX12_text 41 = .ok (.iconst 0, 1) := by decide +kernel
theorem dX12_text_42 : decode cX12_text 42 = .ok (.istore_n 1, 1) := by decide +kernel
theorem dX12_text_43 : decode cX12_text 43 = .ok (.iload_n 1, 1) := by decide +kernel
theorem dX12_text_44 : decode cX12_text 44 = .ok (.bipush 18, 2) := by decide +kernel
theorem dX12_text_46 : decode cX12_text 46 = .ok (.if_icmp .ge 16, 3) := by decide +kernel
theorem dX12_text_49 : decode cX12_text 49 = .ok (.aload_n 0, 1) := by decide +kernel
theorem dX12_text_50 : decode cX12_text 50 = .ok (.getfield 40, 3) := by decide +kernel
theorem dX12_text_53 : decode cX12_text 53 = .ok (.iload_n 1, 1) := by decide +kernel
theorem dX12_text_54 : decode cX12_text 54 = .ok (.iconst 0, 1) := by decide +kernel
theorem dX12_text_55 : decode cX12_text 55 = .ok (.bastore, 1) := by decide +kernel
theorem dX12_text_56 : decode cX12_text 56 = .ok (.iinc 1 1, 3) := by decide +kernel
theorem dX12_text_59 : decode cX12_text 59 = .ok (.goto (-16), 3) := by decide +kernel
theorem dX12_text_62 : decode cX12_text 62 = .ok (.iconst 0, 1) := by decide +kernel
theorem dX12_text_63 : decode cX12_text 63 = .ok (.istore_n 1, 1) := by decide +kernel
theorem dX12_text_64 : decode cX12_text 64 = .ok (.iload_n 1, 1) := by decide +kernel
theorem dX12_text_65 : decode cX12_text 65 = .ok (.sipush 220, 3) := by decide +kernel
theorem dX12_text_68 : decode cX12_text 68 = .ok (.if_icmp .ge 36, 3) := by decide +kernel
theorem dX12_text_71 : decode cX12_text 71 = .ok (.aload_n 0, 1) := by decide +kernel
theorem dX12_text_72 : decode cX12_text 72 = .ok (.getfield 44, 3) := by decide +kernel
theorem dX12_text_75 : decode cX12_text 75 = .ok (.iload_n 1, 1) := by decide +kernel
theorem dX12_text_76 : decode cX12_text 76 = .ok (.aload_n 0, 1) := by decide +kernel
theorem dX12_text_77 : decode cX12_text 77 = .ok (.getfield 7, 3) := by decide +kernel
theorem dX12_text_80 : decode cX12_text 80 = .ok (.sipush 1500, 3) := by decide +kernel
theorem dX12_text_83 : decode cX12_text 83 = .ok (.sipush 220, 3) := by decide +kernel
theorem dX12_text_86 : decode cX12_text 86 = .ok (.aload_n 0, 1) := by decide +kernel
theorem dX12_text_87 : decode cX12_text 87 = .ok (.getfield 7, 3) := by decide +kernel
theorem dX12_text_90 : decode cX12_text 90 = .ok (.iconst 0, 1) := by decide +kernel
theorem dX12_text_91 : decode cX12_text 91 = .ok (.iaload, 1) := by decide +kernel
theorem dX12_text_92 : decode cX12_text 92 = .ok (.imul, 1) := by decide +kernel
theorem dX12_text_93 : decode cX12_text 93 = .ok (.iadd, 1) := by decide +kernel
theorem dX12_text_94 : decode cX12_text 94 = .ok (.iload_n 1, 1) := by decide +kernel
theorem dX12_text_95 : decode cX12_text 95 = .ok (.iadd, 1) := by decide +kernel
theorem dX12_text_96 : decode cX12_text 96 = .ok (.iaload, 1) := by decide +kernel
theorem dX12_text_97 : decode cX12_text 97 = .ok (.iastore, 1) := by decide +kernel
theorem dX12_text_98 : decode cX12_text 98 = .ok (.iinc 1 1, 3) := by decide +kernel
theorem dX12_text_101 : decode cX12_text 101 = .ok (.goto (-37), 3) := by decide +kernel
theorem dX12_text_104 : decode cX12_text 104 = .ok (.iconst 0, 1) := by decide +kernel
theorem dX12_text_105 : decode cX12_text 105 = .ok (.istore_n 1, 1) := by decide +kernel
theorem dX12_text_106 : decode cX12_text 106 = .ok (.aload_n 0, 1) := by decide +kernel
theorem dX12_text_107 : decode cX12_text 107 = .ok (.invokevirtual 155, 3) := by decide +kernel
theorem dX12_text_110 : decode cX12_text 110 = .ok (.aload_n 0, 1) := by decide +kernel
theorem dX12_text_111 : decode cX12_text 111 = .ok (.getfield 124, 3) := by decide +kernel
theorem dX12_text_114 : decode cX12_text 114 = .ok (.ifCond .eq 118, 3) := by decide +kernel
theorem dX12_text_117 : decode cX12_text 117 = .ok (.aload_n 0, 1) := by decide +kernel
theorem dX12_text_118 : decode cX12_text 118 = .ok (.getfield 146, 3) := by decide +kernel
theorem dX12_text_121 : decode cX12_text 121 = .ok (.ifCond .ne 111, 3) := by decide +kernel
theorem dX12_text_124 : decode cX12_text 124 = .ok (.aload_n 0, 1) := by decide +kernel
theorem dX12_text_125 : decode cX12_text 125 = .ok (.getfield 124, 3) := by decide +kernel
theorem dX12_text_128 : decode cX12_text 128 = .ok (.iconst 1, 1) := by decide +kernel
theorem dX12_text_129 : decode cX12_text 129 = .ok (.if_icmp .ne 23, 3) := by decide +kernel
theorem dX12_text_132 : decode cX12_text 132 = .ok (.aload_n 0, 1) := by decide +kernel
theorem dX12_text_133 : decode cX12_text 133 = .ok (.getfield 134, 3) := by decide +kernel
theorem dX12_text_136 : decode cX12_text 136 = .ok (.iconst 2, 1) := by decide +kernel
theorem dX12_text_137 : decode cX12_text 137 = .ok (.if_icmp .eq 15, 3) := by decide +kernel
theorem dX12_text_140 : decode cX12_text 140 = .ok (.aload_n 0, 1) := by decide +kernel
theorem dX12_text_141 : decode cX12_text 141 = .ok (.getfield 134, 3) := by decide +kernel
theorem dX12_text_144 : decode cX12_text 144 = .ok (.iconst 3, 1) := by decide +kernel
theorem dX12_text_145 : decode cX12_text 145 = .ok (.if_icmp .eq 7, 3) := by decide +kernel
theorem dX12_text_148 : decode cX12_text 148 = .ok (.iconst 1, 1) := by decide +kernel
theorem dX12_text_149 : decode cX12_text 149 = .ok (.goto 4, 3) := by decide +kernel
theorem dX12_text_152 : decode cX12_text 152 = .ok (.iconst 0, 1) := by decide +kernel
theorem dX12_text_153 : decode cX12_text 153 = .ok (.istore_n 2, 1) := by decide +kernel
theorem dX12_text_154 : decode cX12_text 154 = .ok (.iload_n 2, 1) := by decide +kernel
theorem dX12_text_155 : decode cX12_text 155 = .ok (.ifCond .eq 43, 3) := by decide +kernel
theorem dX12_text_158 : decode cX12_text 158 = .ok (.aload_n 0, 1) := by decide +kernel
theorem dX12_text_159 : decode cX12_text 159 = .ok (.getfield 134, 3) := by decide +kernel
theorem dX12_text_162 : decode cX12_text 162 = .ok (.iconst 4, 1) := by decide +kernel
theorem dX12_text_163 : decode cX12_text 163 = .ok (.if_icmp .ne 13, 3) := by decide +kernel
theorem dX12_text_166 : decode cX12_text 166 = .ok (.aload_n 0, 1) := by decide +kernel
theorem dX12_text_167 : decode cX12_text 167 = .ok (.getfield 40, 3) := by decide +kernel
theorem dX12_text_170 : decode cX12_text 170 = .ok (.bipush 11, 2) := by decide +kernel
theorem dX12_text_172 : decode cX12_text 172 = .ok (.baload, 1) := by decide +kernel
theorem dX12_text_173 : decode cX12_text 173 = .ok (.ifCond .ne 21, 3) := by decide +kernel
theorem dX12_text_176 : decode cX12_text 176 = .ok (.aload_n 0, 1) := by decide +kernel
theorem dX12_text_177 : decode cX12_text 177 = .ok (.getfield 134, 3) := by decide +kernel
theorem dX12_text_180 : decode cX12_text 180 = .ok (.iconst 5, 1) := by decide +kernel
theorem dX12_text_181 : decode cX12_text 181 = .ok (.if_icmp .ne 17, 3) := by decide +kernel
theorem dX12_text_184 : decode cX12_text 184 = .ok (.aload_n 0, 1) := by decide +kernel
theorem dX12_text_185 : decode cX12_text 185 = .ok (.getfield 40, 3) := by decide +kernel
theorem dX12_text_188 : decode cX12_text 188 = .ok (.bipush 12, 2) := by decide +kernel
theorem dX12_text_190 : decode cX12_text 190 = .ok (.baload, 1) := by decide +kernel
theorem dX12_text_191 : decode cX12_text 191 = .ok (.ifCond .eq 7, 3) := by decide +kernel
theorem dX12_text_194 : decode cX12_text 194 = .ok (.iconst 1, 1) := by decide +kernel
theorem dX12_text_195 : decode cX12_text 195 = .ok (.goto 4, 3) := by decide +kernel
theorem dX12_text_198 : decode cX12_text 198 = .ok (.iconst 0, 1) := by decide +kernel
theorem dX12_text_199 : decode cX12_text 199 = .ok (.istore_n 3, 1) := by decide +kernel
theorem dX12_text_200 : decode cX12_text 200 = .ok (.iload_n 1, 1) := by decide +kernel
theorem dX12_text_201 : decode cX12_text 201 = .ok (.bipush 20, 2) := by decide +kernel
theorem dX12_text_203 : decode cX12_text 203 = .ok (.if_icmp .ne 19, 3) := by decide +kernel
theorem dX12_text_206 : decode cX12_text 206 = .ok (.iload_n 2, 1) := by decide +kernel
theorem dX12_text_207 : decode cX12_text 207 = .ok (.ifCond .eq 15, 3) := by decide +kernel
theorem dX12_text_210 : decode cX12_text 210 = .ok (.iload_n 3, 1) := by decide +kernel
theorem dX12_text_211 : decode cX12_text 211 = .ok (.ifCond .ne 11, 3) := by decide +kernel
theorem dX12_text_214 : decode cX12_text 214 = .ok (.aload_n 0, 1) := by decide +kernel
theorem dX12_text_215 : decode cX12_text 215 = .ok (.iconst 5, 1) := by decide +kernel
theorem dX12_text_216 : decode cX12_text 216 = .ok (.invokevirtual 152, 3) := by decide +kernel
theorem dX12_text_219 : decode cX12_text 219 = .ok (.goto 7, 3) := by decide +kernel
theorem dX12_text_222 : decode cX12_text 222 = .ok (.aload_n 0, 1) := by decide +kernel
theorem dX12_text_223 : decode cX12_text 223 = .ok (.invokevirtual 186, 3) := by decide +kernel
theorem dX12_text_226 : decode cX12_text 226 = .ok (.iinc 1 1, 3) := by decide +kernel
theorem dX12_text_229 : decode cX12_text 229 = .ok (.goto (-119), 3) := by decide +kernel
theorem dX12_text_232 : decode cX12_text 232 = .ok (.aload_n 0, 1) := by decide +kernel
theorem dX12_text_233 : decode cX12_text 233 = .ok (.getfield 146, 3) := by decide +kernel
theorem dX12_text_236 : decode cX12_text 236 = .ok (.ifCond .ne 16, 3) := by decide +kernel
theorem dX12_text_239 : decode cX12_text 239 = .ok (.aload_n 0, 1) := by decide +kernel
theorem dX12_text_240 : decode cX12_text 240 = .ok (.invokevirtual 189, 3) := by decide +kernel
theorem dX12_text_243 : decode cX12_text 243 = .ok (.ifCond .ne 9, 3) := by decide +kernel
theorem dX12_text_246 : decode cX12_text 246 = .ok (.aload_n 0, 1) := by decide +kernel
theorem dX12_text_247 : decode cX12_text 247 = .ok (.bipush 6, 2) := by decide +kernel
theorem dX12_text_249 : decode cX12_text 249 = .ok (.invokevirtual 152, 3) := by decide +kernel
theorem dX12_text_252 : decode cX12_text 252 = .ok (.aload_n 0, 1) := by decide +kernel
theorem dX12_text_253 : decode cX12_text 253 = .ok (.aload_n 0, 1) := by decide +kernel
theorem dX12_text_254 : decode cX12_text 254 = .ok (.getfield 146, 3) := by decide +kernel
theorem dX12_text_257 : decode cX12_text 257 = .ok (.putfield 34, 3) := by decide +kernel
theorem dX12_text_260 : decode cX12_text 260 = .ok (.aload_n 0, 1) := by decide +kernel
theorem dX12_text_261 : decode cX12_text 261 = .ok (.aload_n 0, 1) := by decide +kernel
theorem dX12_text_262 : decode cX12_text 262 = .ok (.getfield 149, 3) := by decide +kernel
theorem dX12_text_265 : decode cX12_text 265 = .ok (.putfield 37, 3) := by decide +kernel
theorem dX12_text_268 : decode cX12_text 268 = .ok (.aload_n 0, 1) := by decide +kernel
theorem dX12_text_269 : decode cX12_text 269 = .ok (.getfield 146, 3) := by decide +kernel
theorem dX12_text_272 : decode cX12_text 272 = .ok (.ifCond .le 5, 3) := by decide +kernel
theorem dX12_text_275 : decode cX12_text 275 = .ok (.iconst (-1), 1) := by decide +kernel
theorem dX12_text_276 : decode cX12_text 276 = .ok (.ireturn, 1) := by decide +kernel
theorem dX12_text_277 : decode cX12_text 277 = .ok (.aload_n 0, 1) := by decide +kernel
theorem dX12_text_278 : decode cX12_text 278 = .ok (.getfield 7, 3) := by decide +kernel
theorem dX12_text_281 : decode cX12_text 281 = .ok (.iconst 0, 1) := by decide +kernel
theorem dX12_text_282 : decode cX12_text 282 = .ok (.dup2, 1) := by decide +kernel
theorem dX12_text_283 : decode cX12_text 283 = .ok (.iaload, 1) := by decide +kernel
theorem dX12_text_284 : decode cX12_text 284 = .ok (.iconst 1, 1) := by decide +kernel
theorem dX12_text_285 : decode cX12_text 285 = .ok (.iadd, 1) := by decide +kernel
theorem dX12_text_286 : decode cX12_text 286 = .ok (.iastore, 1) := by decide +kernel
theorem dX12_text_287 : decode cX12_text 287 = .ok (.aload_n 0, 1) := by decide +kernel
theorem dX12_text_288 : decode cX12_text 288 = .ok (.getfield 7, 3) := by decide +kernel
theorem dX12_text_291 : decode cX12_text 291 = .ok (.iconst 1, 1) := by decide +kernel
theorem dX12_text_292 : decode cX12_text 292 = .ok (.aload_n 0, 1) := by decide +kernel
theorem dX12_text_293 : decode cX12_text 293 = .ok (.getfield 7, 3) := by decide +kernel
theorem dX12_text_296 : decode cX12_text 296 = .ok (.iconst 0, 1) := by decide +kernel
theorem dX12_text_297 : decode cX12_text 297 = .ok (.iaload, 1) := by decide +kernel
theorem dX12_text_298 : decode cX12_text 298 = .ok (.iastore, 1) := by decide +kernel
theorem dX12_text_299 : decode cX12_text 299 = .ok (.aload_n 0, 1) := by decide +kernel
theorem dX12_text_300 : decode cX12_text 300 = .ok (.getfield 7, 3) := by decide +kernel
theorem dX12_text_303 : decode cX12_text 303 = .ok (.bipush 7, 2) := by decide +kernel
theorem dX12_text_305 : decode cX12_text 305 = .ok (.iload_n 1, 1) := by decide +kernel
theorem dX12_text_306 : decode cX12_text 306 = .ok (.iastore, 1) := by decide +kernel
theorem dX12_text_307 : decode cX12_text 307 = .ok (.iconst 0, 1) := by decide +kernel
theorem dX12_text_308 : decode cX12_text 308 = .ok (.istore_n 2, 1) := by decide +kernel
theorem dX12_text_309 : decode cX12_text 309 = .ok (.iload_n 2, 1) := by decide +kernel
theorem dX12_text_310 : decode cX12_text 310 = .ok (.sipush 220, 3) := by decide +kernel
theorem dX12_text_313 : decode cX12_text 313 = .ok (.if_icmp .ge 36, 3) := by decide +kernel
theorem dX12_text_316 : decode cX12_text 316 = .ok (.aload_n 0, 1) := by decide +kernel
theorem dX12_text_317 : decode cX12_text 317 = .ok (.getfield 7, 3) := by decide +kernel
theorem dX12_text_320 : decode cX12_text 320 = .ok (.sipush 1500, 3) := by decide +kernel
theorem dX12_text_323 : decode cX12_text 323 = .ok (.sipush 220, 3) := by decide +kernel
theorem dX12_text_326 : decode cX12_text 326 = .ok (.aload_n 0, 1) := by decide +kernel
theorem dX12_text_327 : decode cX12_text 327 = .ok (.getfield 7, 3) := by decide +kernel
theorem dX12_text_330 : decode cX12_text 330 = .ok (.iconst 0, 1) := by decide +kernel
theorem dX12_text_331 : decode cX12_text 331 = .ok (.iaload, 1) := by decide +kernel
theorem dX12_text_332 : decode cX12_text 332 = .ok (.imul, 1) := by decide +kernel
theorem dX12_text_333 : decode cX12_text 333 = .ok (.iadd, 1) := by decide +kernel
theorem dX12_text_334 : decode cX12_text 334 = .ok (.iload_n 2, 1) := by decide +kernel
theorem dX12_text_335 : decode cX12_text 335 = .ok (.iadd, 1) := by decide +kernel
theorem dX12_text_336 : decode cX12_text 336 = .ok (.aload_n 0, 1) := by decide +kernel
theorem dX12_text_337 : decode cX12_text 337 = .ok (.getfield 44, 3) := by decide +kernel
theorem dX12_text_340 : decode cX12_text 340 = .ok (.iload_n 2, 1) := by decide +kernel
theorem dX12_text_341 : decode cX12_text 341 = .ok (.iaload, 1) := by decide +kernel
theorem dX12_text_342 : decode cX12_text 342 = .ok (.iastore, 1) := by decide +kernel
theorem dX12_text_343 : decode cX12_text 343 = .ok (.iinc 2 1, 3) := by decide +kernel
theorem dX12_text_346 : decode cX12_text 346 = .ok (.goto (-37), 3) := by decide +kernel
theorem dX12_text_349 : decode cX12_text 349 = .ok (.aload_n 0, 1) := by decide +kernel
theorem dX12_text_350 : decode cX12_text 350 = .ok (.getfield 7, 3) := by decide +kernel
theorem dX12_text_353 : decode cX12_text 353 = .ok (.iconst 0, 1) := by decide +kernel
theorem dX12_text_354 : decode cX12_text 354 = .ok (.iaload, 1) := by decide +kernel
theorem dX12_text_355 : decode cX12_text 355 = .ok (.ireturn, 1) := by decide +kernel
theorem dX12_fault_0 : decode cX12_fault 0 = .ok (.iload_n 1, 1) := by decide +kernel
theorem dX12_fault_1 : decode cX12_fault 1 = .ok (.ifCond .ne 10, 3) := by decide +kernel
theorem dX12_fault_4 : decode cX12_fault 4 = .ok (.aload_n 0, 1) := by decide +kernel
theorem dX12_fault_5 : decode cX12_fault 5 = .ok (.getfield 34, 3) := by decide +kernel
theorem dX12_fault_8 : decode cX12_fault 8 = .ok (.goto 16, 3) := by decide +kernel
theorem dX12_fault_11 : decode cX12_fault 11 = .ok (.iload_n 1, 1) := by decide +kernel
theorem dX12_fault_12 : decode cX12_fault 12 = .ok (.iconst 1, 1) := by decide +kernel
theorem dX12_fault_13 : decode cX12_fault 13 = .ok (.if_icmp .ne 10, 3) := by decide +kernel
theorem dX12_fault_16 : decode cX12_fault 16 = .ok (.aload_n 0, 1) := by decide +kernel
theorem dX12_fault_17 : decode cX12_fault 17 = .ok (.getfield 37, 3) := by decide +kernel
theorem dX12_fault_20 : decode cX12_fault 20 = .ok (.goto 4, 3) := by decide +kernel
theorem dX12_fault_23 : decode cX12_fault 23 = .ok (.iconst (-1), 1) := by decide +kernel
theorem dX12_fault_24 : decode cX12_fault 24 = .ok (.ireturn, 1) := by decide +kernel
theorem dX12_look_0 : decode cX12_look 0 = .ok (.iload_n 1, 1) := by decide +kernel
theorem dX12_look_1 : decode cX12_look 1 = .ok (.i2l, 1) := by decide +kernel
theorem dX12_look_2 : decode cX12_look 2 = .ok (.lconst 0, 1) := by decide +kernel
theorem dX12_look_3 : decode cX12_look 3 = .ok (.aload_n 0, 1) := by decide +kernel
theorem dX12_look_4 : decode cX12_look 4 = .ok (.getfield 7, 3) := by decide +kernel
theorem dX12_look_7 : decode cX12_look 7 = .ok (.iconst 0, 1) := by decide +kernel
theorem dX12_look_8 : decode cX12_look 8 = .ok (.iaload, 1) := by decide +kernel
theorem dX12_look_9 : decode cX12_look 9 = .ok (.i2l, 1) := by decide +kernel
theorem dX12_look_10 : decode cX12_look 10 = .ok (.invokestatic 78, 3) := by decide +kernel
theorem dX12_look_13 : decode cX12_look 13 = .ok (.ifCond .ne 5, 3) := by decide +kernel
theorem dX12_look_16 : decode cX12_look 16 = .ok (.iconst 0, 1) := by decide +kernel
theorem dX12_look_17 : decode cX12_look 17 = .ok (.ireturn, 1) := by decide +kernel
theorem dX12_look_18 : decode cX12_look 18 = .ok (.aload_n 0, 1) := by decide +kernel
theorem dX12_look_19 : decode cX12_look 19 = .ok (.getfield 7, 3) := by decide +kernel
theorem dX12_look_22 : decode cX12_look 22 = .ok (.iconst 1, 1) := by decide +kernel
theorem dX12_look_23 : decode cX12_look 23 = .ok (.iload_n 1, 1) := by decide +kernel
theorem dX12_look_24 : decode cX12_look 24 = .ok (.iastore, 1) := by decide +kernel
theorem dX12_look_25 : decode cX12_look 25 = .ok (.iconst 1, 1) := by decide +kernel
theorem dX12_look_26 : decode cX12_look 26 = .ok (.ireturn, 1) := by decide +kernel
theorem dX12_says_0 : decode cX12_says 0 = .ok (.aload_n 0, 1) := by decide +kernel
theorem dX12_says_1 : decode cX12_says 1 = .ok (.getfield 7, 3) := by decide +kernel
theorem dX12_says_4 : decode cX12_says 4 = .ok (.sipush 1500, 3) := by decide +kernel
theorem dX12_says_7 : decode cX12_says 7 = .ok (.sipush 220, 3) := by decide +kernel
theorem dX12_says_10 : decode cX12_says 10 = .ok (.aload_n 0, 1) := by decide +kernel
theorem dX12_says_11 : decode cX12_says 11 = .ok (.getfield 7, 3) := by decide +kernel
theorem dX12_says_14 : decode cX12_says 14 = .ok (.iconst 1, 1) := by decide +kernel
theorem dX12_says_15 : decode cX12_says 15 = .ok (.iaload, 1) := by decide +kernel
theorem dX12_says_16 : decode cX12_says 16 = .ok (.imul, 1) := by decide +kernel
theorem dX12_says_17 : decode cX12_says 17 = .ok (.iadd, 1) := by decide +kernel
theorem dX12_says_18 : decode cX12_says 18 = .ok (.iload_n 1, 1) := by decide +kernel
theorem dX12_says_19 : decode cX12_says 19 = .ok (.iadd, 1) := by decide +kernel
theorem dX12_says_20 : decode cX12_says 20 = .ok (.iaload, 1) := by decide +kernel
theorem dX12_says_21 : decode cX12_says 21 = .ok (.ireturn, 1) := by decide +kernel
theorem dX12_weightOf_0 : decode cX12_weightOf 0 = .ok (.aload_n 0, 1) := by decide +kernel
theorem dX12_weightOf_1 : decode cX12_weightOf 1 = .ok (.iload_n 1, 1) := by decide +kernel
theorem dX12_weightOf_2 : decode cX12_weightOf 2 = .ok (.invokevirtual 193, 3) := by decide +kernel
theorem dX12_weightOf_5 : decode cX12_weightOf 5 = .ok (.ifCond .ne 7, 3) := by decide +kernel
theorem dX12_weightOf_8 : decode cX12_weightOf 8 = .ok (.iconst 1, 1) := by decide +kernel
theorem dX12_weightOf_9 : decode cX12_weightOf 9 = .ok (.goto 8, 3) := by decide +kernel
theorem dX12_weightOf_12 : decode cX12_weightOf 12 = .ok (.aload_n 0, 1) := by decide +kernel
theorem dX12_weightOf_13 : decode cX12_weightOf 13 = .ok (.iload_n 1, 1) := by decide +kernel
theorem dX12_weightOf_14 : decode cX12_weightOf 14 = .ok (.invokevirtual 193, 3) := by decide +kernel
theorem dX12_weightOf_17 : decode cX12_weightOf 17 = .ok (.ireturn, 1) := by decide +kernel
theorem dX12_weight_0 : decode cX12_weight 0 = .ok (.iload_n 1, 1) := by decide +kernel
theorem dX12_weight_1 : decode cX12_weight 1 = .ok (.i2l, 1) := by decide +kernel
theorem dX12_weight_2 : decode cX12_weight 2 = .ok (.lconst 0, 1) := by decide +kernel
theorem dX12_weight_3 : decode cX12_weight 3 = .ok (.ldc2_w 197, 3) := by decide +kernel
theorem dX12_weight_6 : decode cX12_weight 6 = .ok (.invokestatic 78, 3) := by decide +kernel
theorem dX12_weight_9 : decode cX12_weight 9 = .ok (.ifCond .eq 11, 3) := by decide +kernel
theorem dX12_weight_12 : decode cX12_weight 12 = .ok (.aload_n 0, 1) := by decide +kernel
theorem dX12_weight_13 : decode cX12_weight 13 = .ok (.iload_n 1, 1) := by decide +kernel
theorem dX12_weight_14 : decode cX12_weight 14 = .ok (.invokevirtual 199, 3) := by decide +kernel
theorem dX12_weight_17 : decode cX12_weight 17 = .ok (.goto 4, 3) := by decide +kernel
theorem dX12_weight_20 : decode cX12_weight 20 = .ok (.iconst (-1), 1) := by decide +kernel
theorem dX12_weight_21 : decode cX12_weight 21 = .ok (.ireturn, 1) := by decide +kernel
theorem dX12_isChain_0 : decode cX12_isChain 0 = .ok (.aload_n 0, 1) := by decide +kernel
theorem dX12_isChain_1 : decode cX12_isChain 1 = .ok (.bipush 6, 2) := by decide +kernel
theorem dX12_isChain_3 : decode cX12_isChain 3 = .ok (.bipush 6, 2) := by decide +kernel
theorem dX12_isChain_5 : decode cX12_isChain 5 = .ok (.iload_n 1, 1) := by decide +kernel
theorem dX12_isChain_6 : decode cX12_isChain 6 = .ok (.imul, 1) := by decide +kernel
theorem dX12_isChain_7 : decode cX12_isChain 7 = .ok (.iadd, 1) := by decide +kernel
theorem dX12_isChain_8 : decode cX12_isChain 8 = .ok (.invokevirtual 193, 3) := by decide +kernel
theorem dX12_isChain_11 : decode cX12_isChain 11 = .ok (.iconst 1, 1) := by decide +kernel
theorem dX12_isChain_12 : decode cX12_isChain 12 = .ok (.if_icmp .ne 7, 3) := by decide +kernel
theorem dX12_isChain_15 : decode cX12_isChain 15 = .ok (.iconst 1, 1) := by decide +kernel
theorem dX12_isChain_16 : decode cX12_isChain 16 = .ok (.goto 4, 3) := by decide +kernel
theorem dX12_isChain_19 : decode cX12_isChain 19 = .ok (.iconst 0, 1) := by decide +kernel
theorem dX12_isChain_20 : decode cX12_isChain 20 = .ok (.ireturn, 1) := by decide +kernel
theorem dX12_chainOf_0 : decode cX12_chainOf 0 = .ok (.aload_n 0, 1) := by decide +kernel
theorem dX12_chainOf_1 : decode cX12_chainOf 1 = .ok (.bipush 6, 2) := by decide +kernel
theorem dX12_chainOf_3 : decode cX12_chainOf 3 = .ok (.bipush 6, 2) := by decide +kernel
theorem dX12_chainOf_5 : decode cX12_chainOf 5 = .ok (.iload_n 1, 1) := by decide +kernel
theorem dX12_chainOf_6 : decode cX12_chainOf 6 = .ok (.imul, 1) := by decide +kernel
theorem dX12_chainOf_7 : decode cX12_chainOf 7 = .ok (.iadd, 1) := by decide +kernel
theorem dX12_chainOf_8 : decode cX12_chainOf 8 = .ok (.iconst 1, 1) := by decide +kernel
theorem dX12_chainOf_9 : decode cX12_chainOf 9 = .ok (.iadd, 1) := by decide +kernel
theorem dX12_chainOf_10 : decode cX12_chainOf 10 = .ok (.iload_n 2, 1) := by decide +kernel
theorem dX12_chainOf_11 : decode cX12_chainOf 11 = .ok (.iadd, 1) := by decide +kernel
theorem dX12_chainOf_12 : decode cX12_chainOf 12 = .ok (.invokevirtual 193, 3) := by decide +kernel
theorem dX12_chainOf_15 : decode cX12_chainOf 15 = .ok (.ireturn, 1) := by decide +kernel
theorem dX12_chain_0 : decode cX12_chain 0 = .ok (.iload_n 1, 1) := by decide +kernel
theorem dX12_chain_1 : decode cX12_chain 1 = .ok (.i2l, 1) := by decide +kernel
theorem dX12_chain_2 : decode cX12_chain 2 = .ok (.lconst 0, 1) := by decide +kernel
theorem dX12_chain_3 : decode cX12_chain 3 = .ok (.ldc2_w 169, 3) := by decide +kernel
theorem dX12_chain_6 : decode cX12_chain 6 = .ok (.invokestatic 78, 3) := by decide +kernel
theorem dX12_chain_9 : decode cX12_chain 9 = .ok (.ifCond .eq 32, 3) := by decide +kernel
theorem dX12_chain_12 : decode cX12_chain 12 = .ok (.iload_n 2, 1) := by decide +kernel
theorem dX12_chain_13 : decode cX12_chain 13 = .ok (.i2l, 1) := by decide +kernel
theorem dX12_chain_14 : decode cX12_chain 14 = .ok (.lconst 0, 1) := by decide +kernel
theorem dX12_chain_15 : decode cX12_chain 15 = .ok (.ldc2_w 169, 3) := by decide +kernel
theorem dX12_chain_18 : decode cX12_chain 18 = .ok (.invokestatic 78, 3) := by decide +kernel
theorem dX12_chain_21 : decode cX12_chain 21 = .ok (.ifCond .eq 20, 3) := by decide +kernel
theorem dX12_chain_24 : decode cX12_chain 24 = .ok (.aload_n 0, 1) := by decide +kernel
theorem dX12_chain_25 : decode cX12_chain 25 = .ok (.iload_n 1, 1) := by decide +kernel
theorem dX12_chain_26 : decode cX12_chain 26 = .ok (.invokevirtual 202, 3) := by decide +kernel
theorem dX12_chain_29 : decode cX12_chain 29 = .ok (.ifCond .eq 12, 3) := by decide +kernel
theorem dX12_chain_32 : decode cX12_chain 32 = .ok (.aload_n 0, 1) := by decide +kernel
theorem dX12_chain_33 : decode cX12_chain 33 = .ok (.iload_n 1, 1) := by decide +kernel
theorem dX12_chain_34 : decode cX12_chain 34 = .ok (.iload_n 2, 1) := by decide +kernel
theorem dX12_chain_35 : decode cX12_chain 35 = .ok (.invokevirtual 205, 3) := by decide +kernel
theorem dX12_chain_38 : decode cX12_chain 38 = .ok (.goto 4, 3) := by decide +kernel
theorem dX12_chain_41 : decode cX12_chain 41 = .ok (.iconst (-1), 1) := by decide +kernel
theorem dX12_chain_42 : decode cX12_chain 42 = .ok (.ireturn, 1) := by decide +kernel
theorem dX12_down_0 : decode cX12_down 0 = .ok (.lload_n 0, 1) := by decide +kernel
theorem dX12_down_1 : decode cX12_down 1 = .ok (.lconst 0, 1) := by decide +kernel
theorem dX12_down_2 : decode cX12_down 2 = .ok (.lcmp, 1) := by decide +kernel
theorem dX12_down_3 : decode cX12_down 3 = .ok (.ifCond .lt 9, 3) := by decide +kernel
theorem dX12_down_6 : decode cX12_down 6 = .ok (.lload_n 0, 1) := by decide +kernel
theorem dX12_down_7 : decode cX12_down 7 = .ok (.lload_n 2, 1) := by decide +kernel
theorem dX12_down_8 : decode cX12_down 8 = .ok (.ldiv, 1) := by decide +kernel
theorem dX12_down_9 : decode cX12_down 9 = .ok (.goto 11, 3) := by decide +kernel
theorem dX12_down_12 : decode cX12_down 12 = .ok (.lload_n 2, 1) := by decide +kernel
theorem dX12_down_13 : decode cX12_down 13 = .ok (.lconst 1, 1) := by decide +kernel
theorem dX12_down_14 : decode cX12_down 14 = .ok (.lsub, 1) := by decide +kernel
theorem dX12_down_15 : decode cX12_down 15 = .ok (.lload_n 0, 1) := by decide +kernel
theorem dX12_down_16 : decode cX12_down 16 = .ok (.lsub, 1) := by decide +kernel
theorem dX12_down_17 : decode cX12_down 17 = .ok (.lload_n 2, 1) := by decide +kernel
theorem dX12_down_18 : decode cX12_down 18 = .ok (.ldiv, 1) := by decide +kernel
theorem dX12_down_19 : decode cX12_down 19 = .ok (.lneg, 1) := by decide +kernel
theorem dX12_down_20 : decode cX12_down 20 = .ok (.lreturn, 1) := by decide +kernel
theorem dX12_spanOf_0 : decode cX12_spanOf 0 = .ok (.bipush 36, 2) := by decide +kernel
theorem dX12_spanOf_2 : decode cX12_spanOf 2 = .ok (.bipush 25, 2) := by decide +kernel
theorem dX12_spanOf_4 : decode cX12_spanOf 4 = .ok (.iload_n 1, 1) := by decide +kernel
theorem dX12_spanOf_5 : decode cX12_spanOf 5 = .ok (.imul, 1) := by decide +kernel
theorem dX12_spanOf_6 : decode cX12_spanOf 6 = .ok (.iadd, 1) := by decide +kernel
theorem dX12_spanOf_7 : decode cX12_spanOf 7 = .ok (.istore 4, 2) := by decide +kernel
theorem dX12_spanOf_9 : decode cX12_spanOf 9 = .ok (.aload_n 0, 1) := by decide +kernel
theorem dX12_spanOf_10 : decode cX12_spanOf 10 = .ok (.iload 4, 2) := by decide +kernel
theorem dX12_spanOf_12 : decode cX12_spanOf 12 = .ok (.invokevirtual 193, 3) := by decide +kernel
theorem dX12_spanOf_15 : decode cX12_spanOf 15 = .ok (.istore 5, 2) := by decide +kernel
theorem dX12_spanOf_17 : decode cX12_spanOf 17 = .ok (.iload 5, 2) := by decide +kernel
theorem dX12_spanOf_19 : decode cX12_spanOf 19 = .ok (.ifCond .ne 5, 3) := by decide +kernel
theorem dX12_spanOf_22 : decode cX12_spanOf 22 = .ok (.iconst 0, 1) := by decide +kernel
theorem dX12_spanOf_23 : decode cX12_spanOf 23 = .ok (.ireturn, 1) := by decide +kernel
theorem dX12_spanOf_24 : decode cX12_spanOf 24 = .ok (.iconst 0, 1) := by decide +kernel
theorem dX12_spanOf_25 : decode cX12_spanOf 25 = .ok (.istore 6, 2) := by decide +kernel
theorem dX12_spanOf_27 : decode cX12_spanOf 27 = .ok (.iload 6, 2) := by decide +kernel
theorem dX12_spanOf_29 : decode cX12_spanOf 29 = .ok (.iload 5, 2) := by decide +kernel
theorem dX12_spanOf_31 : decode cX12_spanOf 31 = .ok (.if_icmp .ge 26, 3) := by decide +kernel
theorem dX12_spanOf_34 : decode cX12_spanOf 34 = .ok (.aload_n 0, 1) := by decide +kernel
theorem dX12_spanOf_35 : decode cX12_spanOf 35 = .ok (.iload 4, 2) := by decide +kernel
theorem dX12_spanOf_37 : decode cX12_spanOf 37 = .ok (.iconst 1, 1) := by decide +kernel
theorem dX12_spanOf_38 : decode cX12_spanOf 38 = .ok (.iadd, 1) := by decide +kernel
theorem dX12_spanOf_39 : decode cX12_spanOf 39 = .ok (.iconst 3, 1) := by decide +kernel
theorem dX12_spanOf_40 : decode cX12_spanOf 40 = .ok (.iload 6, 2) := by decide +kernel
theorem dX12_spanOf_42 : decode cX12_spanOf 42 = .ok (.imul, 1) := by decide +kernel
theorem dX12_spanOf_43 : decode cX12_spanOf 43 = .ok (.iadd, 1) := by decide +kernel
theorem dX12_spanOf_44 : decode cX12_spanOf 44 = .ok (.invokevirtual 193, 3) := by decide +kernel
theorem dX12_spanOf_47 : decode cX12_spanOf 47 = .ok (.iload_n 2, 1) := by decide +kernel
theorem dX12_spanOf_48 : decode cX12_spanOf 48 = .ok (.if_icmp .gt 9, 3) := by decide +kernel
theorem dX12_spanOf_51 : decode cX12_spanOf 51 = .ok (.iinc 6 1, 3) := by decide +kernel
theorem dX12_spanOf_54 : decode cX12_spanOf 54 = .ok (.goto (-27), 3) := by decide +kernel
theorem dX12_spanOf_57 : decode cX12_spanOf 57 = .ok (.iload_n 3, 1) := by decide +kernel
theorem dX12_spanOf_58 : decode cX12_spanOf 58 = .ok (.ifCond .eq 7, 3) := by decide +kernel
theorem dX12_spanOf_61 : decode cX12_spanOf 61 = .ok (.iconst 3, 1) := by decide +kernel
theorem dX12_spanOf_62 : decode cX12_spanOf 62 = .ok (.goto 4, 3) := by decide +kernel
theorem dX12_spanOf_65 : decode cX12_spanOf 65 = .ok (.iconst 2, 1) := by decide +kernel
theorem dX12_spanOf_66 : decode cX12_spanOf 66 = .ok (.istore 7, 2) := by decide +kernel
theorem dX12_spanOf_68 : decode cX12_spanOf 68 = .ok (.iload 6, 2) := by decide +kernel
theorem dX12_spanOf_70 : decode cX12_spanOf 70 = .ok (.ifCond .ne 13, 3) := by decide +kernel
theorem dX12_spanOf_73 : decode cX12_spanOf 73 = .ok (.aload_n 0, 1) := by decide +kernel
theorem dX12_spanOf_74 : decode cX12_spanOf 74 = .ok (.iload 4, 2) := by decide +kernel
theorem dX12_spanOf_76 : decode cX12_spanOf 76 = .ok (.iload 7, 2) := by decide +kernel
theorem dX12_spanOf_78 : decode cX12_spanOf 78 = .ok (.iadd, 1) := by decide +kernel
theorem dX12_spanOf_79 : decode cX12_spanOf 79 = .ok (.invokevirtual 193, 3) := by decide +kernel
theorem dX12_spanOf_82 : decode cX12_spanOf 82 = .ok (.ireturn, 1) := by decide +kernel
theorem dX12_spanOf_83 : decode cX12_spanOf 83 = .ok (.aload_n 0, 1) := by decide +kernel
theorem dX12_spanOf_84 : decode cX12_spanOf 84 = .ok (.iload 4, 2) := by decide +kernel
theorem dX12_spanOf_86 : decode cX12_spanOf 86 = .ok (.iconst 1, 1) := by decide +kernel
theorem dX12_spanOf_87 : decode cX12_spanOf 87 = .ok (.iadd, 1) := by decide +kernel
theorem dX12_spanOf_88 : decode cX12_spanOf 88 = .ok (.iconst 3, 1) := by decide +kernel
theorem dX12_spanOf_89 : decode cX12_spanOf 89 = .ok (.iload 6, 2) := by decide +kernel
theorem dX12_spanOf_91 : decode cX12_spanOf 91 = .ok (.iconst 1, 1) := by decide +kernel
theorem dX12_spanOf_92 : decode cX12_spanOf 92 = .ok (.isub, 1) := by decide +kernel
theorem dX12_spanOf_93 : decode cX12_spanOf 93 = .ok (.imul, 1) := by decide +kernel
theorem dX12_spanOf_94 : decode cX12_spanOf 94 = .ok (.iadd, 1) := by decide +kernel
theorem dX12_spanOf_95 : decode cX12_spanOf 95 = .ok (.invokevirtual 193, 3) := by decide +kernel
theorem dX12_spanOf_98 : decode cX12_spanOf 98 = .ok (.istore 8, 2) := by decide +kernel
theorem dX12_spanOf_100 : decode cX12_spanOf 100 = .ok (.aload_n 0, 1) := by decide +kernel
theorem dX12_spanOf_101 : decode cX12_spanOf 101 = .ok (.iload 4, 2) := by decide +kernel
theorem dX12_spanOf_103 : decode cX12_spanOf 103 = .ok (.iload 7, 2) := by decide +kernel
theorem dX12_spanOf_105 : decode cX12_spanOf 105 = .ok (.iadd, 1) := by decide +kernel
theorem dX12_spanOf_106 : decode cX12_spanOf 106 = .ok (.iconst 3, 1) := by decide +kernel
theorem dX12_spanOf_107 : decode cX12_spanOf 107 = .ok (.iload 6, 2) := by decide +kernel
theorem dX12_spanOf_109 : decode cX12_spanOf 109 = .ok (.iconst 1, 1) := by decide +kernel
theorem dX12_spanOf_110 : decode cX12_spanOf 110 = .ok (.isub, 1) := by decide +kernel
theorem dX12_spanOf_111 : decode cX12_spanOf 111 = .ok (.imul, 1) := by decide +kernel
theorem dX12_spanOf_112 : decode cX12_spanOf 112 = .ok (.iadd, 1) := by decide +kernel
theorem dX12_spanOf_113 : decode cX12_spanOf 113 = .ok (.invokevirtual 193, 3) := by decide +kernel
theorem dX12_spanOf_116 : decode cX12_spanOf 116 = .ok (.istore 9, 2) := by decide +kernel
theorem dX12_spanOf_118 : decode cX12_spanOf 118 = .ok (.iload 6, 2) := by decide +kernel
theorem dX12_spanOf_120 : decode cX12_spanOf 120 = .ok (.iload 5, 2) := by decide +kernel
theorem dX12_spanOf_122 : decode cX12_spanOf 122 = .ok (.if_icmp .eq 9, 3) := by decide +kernel
theorem dX12_spanOf_125 : decode cX12_spanOf 125 = .ok (.iload 8, 2) := by decide +kernel
theorem dX12_spanOf_127 : decode cX12_spanOf 127 = .ok (.iload_n 2, 1) := by decide +kernel
theorem dX12_spanOf_128 : decode cX12_spanOf 128 = .ok (.if_icmp .ne 6, 3) := by decide +kernel
theorem dX12_spanOf_131 : decode cX12_spanOf 131 = .ok (.iload 9, 2) := by decide +kernel
theorem dX12_spanOf_133 : decode cX12_spanOf 133 = .ok (.ireturn, 1) := by decide +kernel
theorem dX12_spanOf_134 : decode cX12_spanOf 134 = .ok (.aload_n 0, 1) := by decide +kernel
theorem dX12_spanOf_135 : decode cX12_spanOf 135 = .ok (.iload 4, 2) := by decide +kernel
theorem dX12_spanOf_137 : decode cX12_spanOf 137 = .ok (.iconst 1, 1) := by decide +kernel
theorem dX12_spanOf_138 : decode cX12_spanOf 138 = .ok (.iadd, 1) := by decide +kernel
theorem dX12_spanOf_139 : decode cX12_spanOf 139 = .ok (.iconst 3, 1) := by decide +kernel
theorem dX12_spanOf_140 : decode cX12_spanOf 140 = .ok (.iload 6, 2) := by decide +kernel
theorem dX12_spanOf_142 : decode cX12_spanOf 142 = .ok (.imul, 1) := by decide +kernel
theorem dX12_spanOf_143 : decode cX12_spanOf 143 = .ok (.iadd, 1) := by decide +kernel
theorem dX12_spanOf_144 : decode cX12_spanOf 144 = .ok (.invokevirtual 193, 3) := by decide +kernel
theorem dX12_spanOf_147 : decode cX12_spanOf 147 = .ok (.iload 8, 2) := by decide +kernel
theorem dX12_spanOf_149 : decode cX12_spanOf 149 = .ok (.isub, 1) := by decide +kernel
theorem dX12_spanOf_150 : decode cX12_spanOf 150 = .ok (.i2l, 1) := by decide +kernel
theorem dX12_spanOf_151 : decode cX12_spanOf 151 = .ok (.lstore 10, 2) := by decide +kernel
theorem dX12_spanOf_153 : decode cX12_spanOf 153 = .ok (.aload_n 0, 1) := by decide +kernel
theorem dX12_spanOf_154 : decode cX12_spanOf 154 = .ok (.iload 4, 2) := by decide +kernel
theorem dX12_spanOf_156 : decode cX12_spanOf 156 = .ok (.iload 7, 2) := by decide +kernel
theorem dX12_spanOf_158 : decode cX12_spanOf 158 = .ok (.iadd, 1) := by decide +kernel
theorem dX12_spanOf_159 : decode cX12_spanOf 159 = .ok (.iconst 3, 1) := by decide +kernel
theorem dX12_spanOf_160 : decode cX12_spanOf 160 = .ok (.iload 6, 2) := by decide +kernel
theorem dX12_spanOf_162 : decode cX12_spanOf 162 = .ok (.imul, 1) := by decide +kernel
theorem dX12_spanOf_163 : decode cX12_spanOf 163 = .ok (.iadd, 1) := by decide +kernel
theorem dX12_spanOf_164 : decode cX12_spanOf 164 = .ok (.invokevirtual 193, 3) := by decide +kernel
theorem dX12_spanOf_167 : decode cX12_spanOf 167 = .ok (.iload 9, 2) := by decide +kernel
theorem dX12_spanOf_169 : decode cX12_spanOf 169 = .ok (.isub, 1) := by decide +kernel
theorem dX12_spanOf_170 : decode cX12_spanOf 170 = .ok (.i2l, 1) := by decide +kernel
theorem dX12_spanOf_171 : decode cX12_spanOf 171 = .ok (.iload_n 2, 1) := by decide +kernel
theorem dX12_spanOf_172 : decode cX12_spanOf 172 = .ok (.iload 8, 2) := by decide +kernel
theorem dX12_spanOf_174 : decode cX12_spanOf 174 = .ok (.isub, 1) := by decide +kernel
theorem dX12_spanOf_175 : decode cX12_spanOf 175 = .ok (.i2l, 1) := by decide +kernel
theorem dX12_spanOf_176 : decode cX12_spanOf 176 = .ok (.lmul, 1) := by decide +kernel
theorem dX12_spanOf_177 : decode cX12_spanOf 177 = .ok (.lstore 12, 2) := by decide +kernel
theorem dX12_spanOf_179 : decode cX12_spanOf 179 = .ok (.iload 9, 2) := by decide +kernel
theorem dX12_spanOf_181 : decode cX12_spanOf 181 = .ok (.i2l, 1) := by decide +kernel
theorem dX12_spanOf_182 : decode cX12_spanOf 182 = .ok (.iload_n 3, 1) := by decide +kernel
theorem dX12_spanOf_183 : decode cX12_spanOf 183 = .ok (.ifCond .eq 15, 3) := by decide +kernel
theorem dX12_spanOf_186 : decode cX12_spanOf 186 = .ok (.lload 12, 2) := by decide +kernel
theorem dX12_spanOf_188 : decode cX12_spanOf 188 = .ok (.lneg, 1) := by decide +kernel
theorem dX12_spanOf_189 : decode cX12_spanOf 189 = .ok (.lload 10, 2) := by decide +kernel
theorem dX12_spanOf_191 : decode cX12_spanOf 191 = .ok (.invokestatic 208, 3) := by decide +kernel
theorem dX12_spanOf_194 : decode cX12_spanOf 194 = .ok (.lneg, 1) := by decide +kernel
theorem dX12_spanOf_195 : decode cX12_spanOf 195 = .ok (.goto 10, 3) := by decide +kernel
theorem dX12_spanOf_198 : decode cX12_spanOf 198 = .ok (.lload 12, 2) := by decide +kernel
theorem dX12_spanOf_200 : decode cX12_spanOf 200 = .ok (.lload 10, 2) := by decide +kernel
theorem dX12_spanOf_202 : decode cX12_spanOf 202 = .ok (.invokestatic 208, 3) := by decide +kernel
theorem dX12_spanOf_205 : decode cX12_spanOf 205 = .ok (.ladd, 1) := by decide +kernel
theorem dX12_spanOf_206 : decode cX12_spanOf 206 = .ok (.l2i, 1) := by decide +kernel
theorem dX12_spanOf_207 : decode cX12_spanOf 207 = .ok (.ireturn, 1) := by decide +kernel
theorem dX12_law_0 : decode cX12_law 0 = .ok (.iload_n 1, 1) := by decide +kernel
theorem dX12_law_1 : decode cX12_law 1 = .ok (.i2l, 1) := by decide +kernel
theorem dX12_law_2 : decode cX12_law 2 = .ok (.lconst 0, 1) := by decide +kernel
theorem dX12_law_3 : decode cX12_law 3 = .ok (.ldc2_w 212, 3) := by decide +kernel
theorem dX12_law_6 : decode cX12_law 6 = .ok (.invokestatic 78, 3) := by decide +kernel
theorem dX12_law_9 : decode cX12_law 9 = .ok (.ifCond .eq 25, 3) := by decide +kernel
theorem dX12_law_12 : decode cX12_law 12 = .ok (.iload_n 2, 1) := by decide +kernel
theorem dX12_law_13 : decode cX12_law 13 = .ok (.i2l, 1) := by decide +kernel
theorem dX12_law_14 : decode cX12_law 14 = .ok (.lconst 0, 1) := by decide +kernel
theorem dX12_law_15 : decode cX12_law 15 = .ok (.ldc2_w 175, 3) := by decide +kernel
theorem dX12_law_18 : decode cX12_law 18 = .ok (.invokestatic 78, 3) := by decide +kernel
theorem dX12_law_21 : decode cX12_law 21 = .ok (.ifCond .eq 13, 3) := by decide +kernel
theorem dX12_law_24 : decode cX12_law 24 = .ok (.aload_n 0, 1) := by decide +kernel
theorem dX12_law_25 : decode cX12_law 25 = .ok (.iload_n 1, 1) := by decide +kernel
theorem dX12_law_26 : decode cX12_law 26 = .ok (.iload_n 2, 1) := by decide +kernel
theorem dX12_law_27 : decode cX12_law 27 = .ok (.iload_n 3, 1) := by decide +kernel
theorem dX12_law_28 : decode cX12_law 28 = .ok (.invokevirtual 214, 3) := by decide +kernel
theorem dX12_law_31 : decode cX12_law 31 = .ok (.goto 4, 3) := by decide +kernel
theorem dX12_law_34 : decode cX12_law 34 = .ok (.iconst (-1), 1) := by decide +kernel
theorem dX12_law_35 : decode cX12_law 35 = .ok (.ireturn, 1) := by decide +kernel
theorem dX12_partsAt_0 : decode cX12_partsAt 0 = .ok (.aload_n 0, 1) := by decide +kernel
theorem dX12_partsAt_1 : decode cX12_partsAt 1 = .ok (.getfield 7, 3) := by decide +kernel
theorem dX12_partsAt_4 : decode cX12_partsAt 4 = .ok (.bipush 20, 2) := by decide +kernel
theorem dX12_partsAt_6 : decode cX12_partsAt 6 = .ok (.bipush 96, 2) := by decide +kernel
theorem dX12_partsAt_8 : decode cX12_partsAt 8 = .ok (.iload_n 1, 1) := by decide +kernel
theorem dX12_partsAt_9 : decode cX12_partsAt 9 = .ok (.imul, 1) := by decide +kernel
theorem dX12_partsAt_10 : decode cX12_partsAt 10 = .ok (.iadd, 1) := by decide +kernel
theorem dX12_partsAt_11 : decode cX12_partsAt 11 = .ok (.bipush 6, 2) := by decide +kernel
theorem dX12_partsAt_13 : decode cX12_partsAt 13 = .ok (.iload_n 2, 1) := by decide +kernel
theorem dX12_partsAt_14 : decode cX12_partsAt 14 = .ok (.imul, 1) := by decide +kernel
theorem dX12_partsAt_15 : decode cX12_partsAt 15 = .ok (.iadd, 1) := by decide +kernel
theorem dX12_partsAt_16 : decode cX12_partsAt 16 = .ok (.iload_n 3, 1) := by decide +kernel
theorem dX12_partsAt_17 : decode cX12_partsAt 17 = .ok (.iadd, 1) := by decide +kernel
theorem dX12_partsAt_18 : decode cX12_partsAt 18 = .ok (.iaload, 1) := by decide +kernel
theorem dX12_partsAt_19 : decode cX12_partsAt 19 = .ok (.ireturn, 1) := by decide +kernel
theorem dX12_sets_0 : decode cX12_sets 0 = .ok (.aload_n 0, 1) := by decide +kernel
theorem dX12_sets_1 : decode cX12_sets 1 = .ok (.getfield 7, 3) := by decide +kernel
theorem dX12_sets_4 : decode cX12_sets 4 = .ok (.bipush 20, 2) := by decide +kernel
theorem dX12_sets_6 : decode cX12_sets 6 = .ok (.bipush 96, 2) := by decide +kernel
theorem dX12_sets_8 : decode cX12_sets 8 = .ok (.iload_n 1, 1) := by decide +kernel
theorem dX12_sets_9 : decode cX12_sets 9 = .ok (.imul, 1) := by decide +kernel
theorem dX12_sets_10 : decode cX12_sets 10 = .ok (.iadd, 1) := by decide +kernel
theorem dX12_sets_11 : decode cX12_sets 11 = .ok (.bipush 6, 2) := by decide +kernel
theorem dX12_sets_13 : decode cX12_sets 13 = .ok (.iload_n 2, 1) := by decide +kernel
theorem dX12_sets_14 : decode cX12_sets 14 = .ok (.imul, 1) := by decide +kernel
theorem dX12_sets_15 : decode cX12_sets 15 = .ok (.iadd, 1) := by decide +kernel
theorem dX12_sets_16 : decode cX12_sets 16 = .ok (.iload_n 3, 1) := by decide +kernel
theorem dX12_sets_17 : decode cX12_sets 17 = .ok (.iadd, 1) := by decide +kernel
theorem dX12_sets_18 : decode cX12_sets 18 = .ok (.iload 4, 2) := by decide +kernel
theorem dX12_sets_20 : decode cX12_sets 20 = .ok (.iastore, 1) := by decide +kernel
theorem dX12_sets_21 : decode cX12_sets 21 = .ok (.return_, 1) := by decide +kernel
theorem dX12_shell_0 : decode cX12_shell 0 = .ok (.iload_n 1, 1) := by decide +kernel
theorem dX12_shell_1 : decode cX12_shell 1 = .ok (.invokestatic 82, 3) := by decide +kernel
theorem dX12_shell_4 : decode cX12_shell 4 = .ok (.ifCond .eq 16, 3) := by decide +kernel
theorem dX12_shell_7 : decode cX12_shell 7 = .ok (.aload_n 0, 1) := by decide +kernel
theorem dX12_shell_8 : decode cX12_shell 8 = .ok (.getfield 7, 3) := by decide +kernel
theorem dX12_shell_11 : decode cX12_shell 11 = .ok (.iconst 2, 1) := by decide +kernel
theorem dX12_shell_12 : decode cX12_shell 12 = .ok (.iload_n 1, 1) := by decide +kernel
theorem dX12_shell_13 : decode cX12_shell 13 = .ok (.iadd, 1) := by decide +kernel
theorem dX12_shell_14 : decode cX12_shell 14 = .ok (.iaload, 1) := by decide +kernel
theorem dX12_shell_15 : decode cX12_shell 15 = .ok (.bipush 16, 2) := by decide +kernel
theorem dX12_shell_17 : decode cX12_shell 17 = .ok (.if_icmp .ne 5, 3) := by decide +kernel
theorem dX12_shell_20 : decode cX12_shell 20 = .ok (.iconst (-1), 1) := by decide +kernel
theorem dX12_shell_21 : decode cX12_shell 21 = .ok (.ireturn, 1) := by decide +kernel
theorem dX12_shell_22 : decode cX12_shell 22 = .ok (.aload_n 0, 1) := by decide +kernel
theorem dX12_shell_23 : decode cX12_shell 23 = .ok (.getfield 7, 3) := by decide +kernel
theorem dX12_shell_26 : decode cX12_shell 26 = .ok (.iconst 2, 1) := by decide +kernel
theorem dX12_shell_27 : decode cX12_shell 27 = .ok (.iload_n 1, 1) := by decide +kernel
theorem dX12_shell_28 : decode cX12_shell 28 = .ok (.iadd, 1) := by decide +kernel
theorem dX12_shell_29 : decode cX12_shell 29 = .ok (.dup2, 1) := by decide +kernel
theorem dX12_shell_30 : decode cX12_shell 30 = .ok (.iaload, 1) := by decide +kernel
theorem dX12_shell_31 : decode cX12_shell 31 = .ok (.iconst 1, 1) := by decide +kernel
theorem dX12_shell_32 : decode cX12_shell 32 = .ok (.iadd, 1) := by decide +kernel
theorem dX12_shell_33 : decode cX12_shell 33 = .ok (.iastore, 1) := by decide +kernel
theorem dX12_shell_34 : decode cX12_shell 34 = .ok (.aload_n 0, 1) := by decide +kernel
theorem dX12_shell_35 : decode cX12_shell 35 = .ok (.getfield 7, 3) := by decide +kernel
theorem dX12_shell_38 : decode cX12_shell 38 = .ok (.iconst 2, 1) := by decide +kernel
theorem dX12_shell_39 : decode cX12_shell 39 = .ok (.iload_n 1, 1) := by decide +kernel
theorem dX12_shell_40 : decode cX12_shell 40 = .ok (.iadd, 1) := by decide +kernel
theorem dX12_shell_41 : decode cX12_shell 41 = .ok (.iaload, 1) := by decide +kernel
theorem dX12_shell_42 : decode cX12_shell 42 = .ok (.iconst 1, 1) := by decide +kernel
theorem dX12_shell_43 : decode cX12_shell 43 = .ok (.isub, 1) := by decide +kernel
theorem dX12_shell_44 : decode cX12_shell 44 = .ok (.ireturn, 1) := by decide +kernel
theorem dX12_fill_0 : decode cX12_fill 0 = .ok (.aload_n 0, 1) := by decide +kernel
theorem dX12_fill_1 : decode cX12_fill 1 = .ok (.iload_n 1, 1) := by decide +kernel
theorem dX12_fill_2 : decode cX12_fill 2 = .ok (.iload_n 2, 1) := by decide +kernel
theorem dX12_fill_3 : decode cX12_fill 3 = .ok (.invokevirtual 218, 3) := by decide +kernel
theorem dX12_fill_6 : decode cX12_fill 6 = .ok (.ifCond .eq 28, 3) := by decide +kernel
theorem dX12_fill_9 : decode cX12_fill 9 = .ok (.iload_n 3, 1) := by decide +kernel
theorem dX12_fill_10 : decode cX12_fill 10 = .ok (.i2l, 1) := by decide +kernel
theorem dX12_fill_11 : decode cX12_fill 11 = .ok (.lconst 0, 1) := by decide +kernel
theorem dX12_fill_12 : decode cX12_fill 12 = .ok (.ldc2_w 197, 3) := by decide +kernel
theorem dX12_fill_15 : decode cX12_fill 15 = .ok (.invokestatic 78, 3) := by decide +kernel
theorem dX12_fill_18 : decode cX12_fill 18 = .ok (.ifCond .eq 16, 3) := by decide +kernel
theorem dX12_fill_21 : decode cX12_fill 21 = .ok (.iload 4, 2) := by decide +kernel
theorem dX12_fill_23 : decode cX12_fill 23 = .ok (.i2l, 1) := by decide +kernel
theorem dX12_fill_24 : decode cX12_fill 24 = .ok (.lconst 0, 1) := by decide +kernel
theorem dX12_fill_25 : decode cX12_fill 25 = .ok (.ldc2_w 222, 3) := by decide +kernel
theorem dX12_fill_28 : decode cX12_fill 28 = .ok (.invokestatic 78, 3) := by decide +kernel
theorem dX12_fill_31 : decode cX12_fill 31 = .ok (.ifCond .ne 5, 3) := by decide +kernel
theorem dX12_fill_34 : decode cX12_fill 34 = .ok (.iconst 0, 1) := by decide +kernel
theorem dX12_fill_35 : decode cX12_fill 35 = .ok (.ireturn, 1) := by decide +kernel
theorem dX12_fill_36 : decode cX12_fill 36 = .ok (.aload_n 0, 1) := by decide +kernel
theorem dX12_fill_37 : decode cX12_fill 37 = .ok (.iload_n 1, 1) := by decide +kernel
theorem dX12_fill_38 : decode cX12_fill 38 = .ok (.iload_n 2, 1) := by decide +kernel
theorem dX12_fill_39 : decode cX12_fill 39 = .ok (.iload_n 3, 1) := by decide +kernel
theorem dX12_fill_40 : decode cX12_fill 40 = .ok (.iload 4, 2) := by decide +kernel
theorem dX12_fill_42 : decode cX12_fill 42 = .ok (.invokevirtual 224, 3) := by decide +kernel
theorem dX12_fill_45 : decode cX12_fill 45 = .ok (.iconst 1, 1) := by decide +kernel
theorem dX12_fill_46 : decode cX12_fill 46 = .ok (.ireturn, 1) := by decide +kernel
theorem dX12_parts_0 : decode cX12_parts 0 = .ok (.aload_n 0, 1) := by decide +kernel
theorem dX12_parts_1 : decode cX12_parts 1 = .ok (.iload_n 1, 1) := by decide +kernel
theorem dX12_parts_2 : decode cX12_parts 2 = .ok (.iload_n 2, 1) := by decide +kernel
theorem dX12_parts_3 : decode cX12_parts 3 = .ok (.invokevirtual 218, 3) := by decide +kernel
theorem dX12_parts_6 : decode cX12_parts 6 = .ok (.ifCond .eq 25, 3) := by decide +kernel
theorem dX12_parts_9 : decode cX12_parts 9 = .ok (.iload_n 3, 1) := by decide +kernel
theorem dX12_parts_10 : decode cX12_parts 10 = .ok (.i2l, 1) := by decide +kernel
theorem dX12_parts_11 : decode cX12_parts 11 = .ok (.lconst 0, 1) := by decide +kernel
theorem dX12_parts_12 : decode cX12_parts 12 = .ok (.ldc2_w 197, 3) := by decide +kernel
theorem dX12_parts_15 : decode cX12_parts 15 = .ok (.invokestatic 78, 3) := by decide +kernel
theorem dX12_parts_18 : decode cX12_parts 18 = .ok (.ifCond .eq 13, 3) := by decide +kernel
theorem dX12_parts_21 : decode cX12_parts 21 = .ok (.aload_n 0, 1) := by decide +kernel
theorem dX12_parts_22 : decode cX12_parts 22 = .ok (.iload_n 1, 1) := by decide +kernel
theorem dX12_parts_23 : decode cX12_parts 23 = .ok (.iload_n 2, 1) := by decide +kernel
theorem dX12_parts_24 : decode cX12_parts 24 = .ok (.iload_n 3, 1) := by decide +kernel
theorem dX12_parts_25 : decode cX12_parts 25 = .ok (.invokevirtual 228, 3) := by decide +kernel
theorem dX12_parts_28 : decode cX12_parts 28 = .ok (.goto 4, 3) := by decide +kernel
theorem dX12_parts_31 : decode cX12_parts 31 = .ok (.iconst (-1), 1) := by decide +kernel
theorem dX12_parts_32 : decode cX12_parts 32 = .ok (.ireturn, 1) := by decide +kernel
theorem dX12_rules_0 : decode cX12_rules 0 = .ok (.iload_n 1, 1) := by decide +kernel
theorem dX12_rules_1 : decode cX12_rules 1 = .ok (.invokestatic 82, 3) := by decide +kernel
theorem dX12_rules_4 : decode cX12_rules 4 = .ok (.ifCond .eq 27, 3) := by decide +kernel
theorem dX12_rules_7 : decode cX12_rules 7 = .ok (.iload_n 2, 1) := by decide +kernel
theorem dX12_rules_8 : decode cX12_rules 8 = .ok (.i2l, 1) := by decide +kernel
theorem dX12_rules_9 : decode cX12_rules 9 = .ok (.lconst 1, 1) := by decide +kernel
theorem dX12_rules_10 : decode cX12_rules 10 = .ok (.ldc2_w 222, 3) := by decide +kernel
theorem dX12_rules_13 : decode cX12_rules 13 = .ok (.invokestatic 78, 3) := by decide +kernel
theorem dX12_rules_16 : decode cX12_rules 16 = .ok (.ifCond .eq 15, 3) := by decide +kernel
theorem dX12_rules_19 : decode cX12_rules 19 = .ok (.iload_n 3, 1) := by decide +kernel
theorem dX12_rules_20 : decode cX12_rules 20 = .ok (.i2l, 1) := by decide +kernel
theorem dX12_rules_21 : decode cX12_rules 21 = .ok (.lconst 0, 1) := by decide +kernel
theorem dX12_rules_22 : decode cX12_rules 22 = .ok (.ldc2_w 232, 3) := by decide +kernel
theorem dX12_rules_25 : decode cX12_rules 25 = .ok (.invokestatic 78, 3) := by decide +kernel
theorem dX12_rules_28 : decode cX12_rules 28 = .ok (.ifCond .ne 5, 3) := by decide +kernel
theorem dX12_rules_31 : decode cX12_rules 31 = .ok (.iconst 0, 1) := by decide +kernel
theorem dX12_rules_32 : decode cX12_rules 32 = .ok (.ireturn, 1) := by decide +kernel
theorem dX12_rules_33 : decode cX12_rules 33 = .ok (.aload_n 0, 1) := by decide +kernel
theorem dX12_rules_34 : decode cX12_rules 34 = .ok (.getfield 7, 3) := by decide +kernel
theorem dX12_rules_37 : decode cX12_rules 37 = .ok (.bipush 8, 2) := by decide +kernel
theorem dX12_rules_39 : decode cX12_rules 39 = .ok (.iload_n 1, 1) := by decide +kernel
theorem dX12_rules_40 : decode cX12_rules 40 = .ok (.iadd, 1) := by decide +kernel
theorem dX12_rules_41 : decode cX12_rules 41 = .ok (.iload_n 2, 1) := by decide +kernel
theorem dX12_rules_42 : decode cX12_rules 42 = .ok (.iastore, 1) := by decide +kernel
theorem dX12_rules_43 : decode cX12_rules 43 = .ok (.aload_n 0, 1) := by decide +kernel
theorem dX12_rules_44 : decode cX12_rules 44 = .ok (.getfield 7, 3) := by decide +kernel
theorem dX12_rules_47 : decode cX12_rules 47 = .ok (.bipush 10, 2) := by decide +kernel
theorem dX12_rules_49 : decode cX12_rules 49 = .ok (.iload_n 1, 1) := by decide +kernel
theorem dX12_rules_50 : decode cX12_rules 50 = .ok (.iadd, 1) := by decide +kernel
theorem dX12_rules_51 : decode cX12_rules 51 = .ok (.iload_n 3, 1) := by decide +kernel
theorem dX12_rules_52 : decode cX12_rules 52 = .ok (.iastore, 1) := by decide +kernel
theorem dX12_rules_53 : decode cX12_rules 53 = .ok (.iconst 1, 1) := by decide +kernel
theorem dX12_rules_54 : decode cX12_rules 54 = .ok (.ireturn, 1) := by decide +kernel
theorem dX12_weighs_0 : decode cX12_weighs 0 = .ok (.iconst 0, 1) := by decide +kernel
theorem dX12_weighs_1 : decode cX12_weighs 1 = .ok (.istore_n 3, 1) := by decide +kernel
theorem dX12_weighs_2 : decode cX12_weighs 2 = .ok (.iconst 0, 1) := by decide +kernel
theorem dX12_weighs_3 : decode cX12_weighs 3 = .ok (.istore 4, 2) := by decide +kernel
theorem dX12_weighs_5 : decode cX12_weighs 5 = .ok (.iload 4, 2) := by decide +kernel
theorem dX12_weighs_7 : decode cX12_weighs 7 = .ok (.bipush 6, 2) := by decide +kernel
theorem dX12_weighs_9 : decode cX12_weighs 9 = .ok (.if_icmp .ge 27, 3) := by decide +kernel
theorem dX12_weighs_12 : decode cX12_weighs 12 = .ok (.iload_n 3, 1) := by decide +kernel
theorem dX12_weighs_13 : decode cX12_weighs 13 = .ok (.aload_n 0, 1) := by decide +kernel
theorem dX12_weighs_14 : decode cX12_weighs 14 = .ok (.iload 4, 2) := by decide +kernel
theorem dX12_weighs_16 : decode cX12_weighs 16 = .ok (.invokevirtual 199, 3) := by decide +kernel
theorem dX12_weighs_19 : decode cX12_weighs 19 = .ok (.aload_n 0, 1) := by decide +kernel
theorem dX12_weighs_20 : decode cX12_weighs 20 = .ok (.iload_n 1, 1) := by decide +kernel
theorem dX12_weighs_21 : decode cX12_weighs 21 = .ok (.iload_n 2, 1) := by decide +kernel
theorem dX12_weighs_22 : decode cX12_weighs 22 = .ok (.iload 4, 2) := by decide +kernel
theorem dX12_weighs_24 : decode cX12_weighs 24 = .ok (.invokevirtual 228, 3) := by decide +kernel
theorem dX12_weighs_27 : decode cX12_weighs 27 = .ok (.imul, 1) := by decide +kernel
theorem dX12_weighs_28 : decode cX12_weighs 28 = .ok (.iadd, 1) := by decide +kernel
theorem dX12_weighs_29 : decode cX12_weighs 29 = .ok (.istore_n 3, 1) := by decide +kernel
theorem dX12_weighs_30 : decode cX12_weighs 30 = .ok (.iinc 4 1, 3) := by decide +kernel
theorem dX12_weighs_33 : decode cX12_weighs 33 = .ok (.goto (-28), 3) := by decide +kernel
theorem dX12_weighs_36 : decode cX12_weighs 36 = .ok (.iload_n 3, 1) := by decide +kernel
theorem dX12_weighs_37 : decode cX12_weighs 37 = .ok (.ireturn, 1) := by decide +kernel
theorem dX12_needOf_0 : decode cX12_needOf 0 = .ok (.aload_n 0, 1) := by decide +kernel
theorem dX12_needOf_1 : decode cX12_needOf 1 = .ok (.iload_n 1, 1) := by decide +kernel
theorem dX12_needOf_2 : decode cX12_needOf 2 = .ok (.iload_n 2, 1) := by decide +kernel
theorem dX12_needOf_3 : decode cX12_needOf 3 = .ok (.invokevirtual 234, 3) := by decide +kernel
theorem dX12_needOf_6 : decode cX12_needOf 6 = .ok (.iconst 2, 1) := by decide +kernel
theorem dX12_needOf_7 : decode cX12_needOf 7 = .ok (.idiv, 1) := by decide +kernel
theorem dX12_needOf_8 : decode cX12_needOf 8 = .ok (.istore 4, 2) := by decide +kernel
theorem dX12_needOf_10 : decode cX12_needOf 10 = .ok (.iload_n 2, 1) := by decide +kernel
theorem dX12_needOf_11 : decode cX12_needOf 11 = .ok (.iconst 1, 1) := by decide +kernel
theorem dX12_needOf_12 : decode cX12_needOf 12 = .ok (.iadd, 1) := by decide +kernel
theorem dX12_needOf_13 : decode cX12_needOf 13 = .ok (.istore 5, 2) := by decide +kernel
theorem dX12_needOf_15 : decode cX12_needOf 15 = .ok (.iload 5, 2) := by decide +kernel
theorem dX12_needOf_17 : decode cX12_needOf 17 = .ok (.aload_n 0, 1) := by decide +kernel
theorem dX12_needOf_18 : decode cX12_needOf 18 = .ok (.getfield 7, 3) := by decide +kernel
theorem dX12_needOf_21 : decode cX12_needOf 21 = .ok (.iconst 2, 1) := by decide +kernel
theorem dX12_needOf_22 : decode cX12_needOf 22 = .ok (.iload_n 1, 1) := by decide +kernel
theorem dX12_needOf_23 : decode cX12_needOf 23 = .ok (.iadd, 1) := by decide +kernel
theorem dX12_needOf_24 : decode cX12_needOf 24 = .ok (.iaload, 1) := by decide +kernel
theorem dX12_needOf_25 : decode cX12_needOf 25 = .ok (.if_icmp .ge 21, 3) := by decide +kernel
theorem dX12_needOf_28 : decode cX12_needOf 28 = .ok (.iload 4, 2) := by decide +kernel
theorem dX12_needOf_30 : decode cX12_needOf 30 = .ok (.aload_n 0, 1) := by decide +kernel
theorem dX12_needOf_31 : decode cX12_needOf 31 = .ok (.iload_n 1, 1) := by decide +kernel
theorem dX12_needOf_32 : decode cX12_needOf 32 = .ok (.iload 5, 2) := by decide +kernel
theorem dX12_needOf_34 : decode cX12_needOf 34 = .ok (.invokevirtual 234, 3) := by decide +kernel
theorem dX12_needOf_37 : decode cX12_needOf 37 = .ok (.iadd, 1) := by decide +kernel
theorem dX12_needOf_38 : decode cX12_needOf 38 = .ok (.istore 4, 2) := by decide +kernel
theorem dX12_needOf_40 : decode cX12_needOf 40 = .ok (.iinc 5 1, 3) := by decide +kernel
theorem dX12_needOf_43 : decode cX12_needOf 43 = .ok (.goto (-28), 3) := by decide +kernel
theorem dX12_needOf_46 : decode cX12_needOf 46 = .ok (.iload 4, 2) := by decide +kernel
theorem dX12_needOf_48 : decode cX12_needOf 48 = .ok (.iload_n 3, 1) := by decide +kernel
theorem dX12_needOf_49 : decode cX12_needOf 49 = .ok (.idiv, 1) := by decide +kernel
theorem dX12_needOf_50 : decode cX12_needOf 50 = .ok (.ireturn, 1) := by decide +kernel
theorem dX12_spans_0 : decode cX12_spans 0 = .ok (.iconst 0, 1) := by decide +kernel
theorem dX12_spans_1 : decode cX12_spans 1 = .ok (.istore_n 1, 1) := by decide +kernel
theorem dX12_spans_2 : decode cX12_spans 2 = .ok (.iload_n 1, 1) := by decide +kernel
theorem dX12_spans_3 : decode cX12_spans 3 = .ok (.bipush 7, 2) := by decide +kernel
theorem dX12_spans_5 : decode cX12_spans 5 = .ok (.if_icmp .ge 62, 3) := by decide +kernel
theorem dX12_spans_8 : decode cX12_spans 8 = .ok (.iconst 0, 1) := by decide +kernel
theorem dX12_spans_9 : decode cX12_spans 9 = .ok (.istore_n 2, 1) := by decide +kernel
theorem dX12_spans_10 : decode cX12_spans 10 = .ok (.iload_n 2, 1) := by decide +kernel
theorem dX12_spans_11 : decode cX12_spans 11 = .ok (.sipush 1000, 3) := by decide +kernel
theorem dX12_spans_14 : decode cX12_spans 14 = .ok (.if_icmp .ge 47, 3) := by decide +kernel
theorem dX12_spans_17 : decode cX12_spans 17 = .ok (.aload_n 0, 1) := by decide +kernel
theorem dX12_spans_18 : decode cX12_spans 18 = .ok (.getfield 47, 3) := by decide +kernel
theorem dX12_spans_21 : decode cX12_spans 21 = .ok (.sipush 1000, 3) := by decide +kernel
theorem dX12_spans_24 : decode cX12_spans 24 = .ok (.iload_n 1, 1) := by decide +kernel
theorem dX12_spans_25 : decode cX12_spans 25 = .ok (.imul, 1) := by decide +kernel
theorem dX12_spans_26 : decode cX12_spans 26 = .ok (.iload_n 2, 1) := by decide +kernel
theorem dX12_spans_27 : decode cX12_spans 27 = .ok (.iadd, 1) := by decide +kernel
theorem dX12_spans_28 : decode cX12_spans 28 = .ok (.aload_n 0, 1) := by decide +kernel
theorem dX12_spans_29 : decode cX12_spans 29 = .ok (.iload_n 1, 1) := by decide +kernel
theorem dX12_spans_30 : decode cX12_spans 30 = .ok (.iload_n 2, 1) := by decide +kernel
theorem dX12_spans_31 : decode cX12_spans 31 = .ok (.iconst 0, 1) := by decide +kernel
theorem dX12_spans_32 : decode cX12_spans 32 = .ok (.invokevirtual 214, 3) := by decide +kernel
theorem dX12_spans_35 : decode cX12_spans 35 = .ok (.iastore, 1) := by decide +kernel
theorem dX12_spans_36 : decode cX12_spans 36 = .ok (.aload_n 0, 1) := by decide +kernel
theorem dX12_spans_37 : decode cX12_spans 37 = .ok (.getfield 50, 3) := by decide +kernel
theorem dX12_spans_40 : decode cX12_spans 40 = .ok (.sipush 1000, 3) := by decide +kernel
theorem dX12_spans_43 : decode cX12_spans 43 = .ok (.iload_n 1, 1) := by decide +kernel
theorem dX12_spans_44 : decode cX12_spans 44 = .ok (.imul, 1) := by decide +kernel
theorem dX12_spans_45 : decode cX12_spans 45 = .ok (.iload_n 2, 1) := by decide +kernel
theorem dX12_spans_46 : decode cX12_spans 46 = .ok (.iadd, 1) := by decide +kernel
theorem dX12_spans_47 : decode cX12_spans 47 = .ok (.aload_n 0, 1) := by decide +kernel
theorem dX12_spans_48 : decode cX12_spans 48 = .ok (.iload_n 1, 1) := by decide +kernel
theorem dX12_spans_49 : decode cX12_spans 49 = .ok (.iload_n 2, 1) := by decide +kernel
theorem dX12_spans_50 : decode cX12_spans 50 = .ok (.iconst 1, 1) := by decide +kernel
theorem dX12_spans_51 : decode cX12_spans 51 = .ok (.invokevirtual 214, 3) := by decide +kernel
theorem dX12_spans_54 : decode cX12_spans 54 = .ok (.iastore, 1) := by decide +kernel
theorem dX12_spans_55 : decode cX12_spans 55 = .ok (.iinc 2 1, 3) := by decide +kernel
theorem dX12_spans_58 : decode cX12_spans 58 = .ok (.goto (-48), 3) := by decide +kernel
theorem dX12_spans_61 : decode cX12_spans 61 = .ok (.iinc 1 1, 3) := by decide +kernel
theorem dX12_spans_64 : decode cX12_spans 64 = .ok (.goto (-62), 3) := by decide +kernel
theorem dX12_spans_67 : decode cX12_spans 67 = .ok (.return_, 1) := by decide +kernel
theorem dX12_canBe_0 : decode cX12_canBe 0 = .ok (.aload_n 0, 1) := by decide +kernel
theorem dX12_canBe_1 : decode cX12_canBe 1 = .ok (.getfield 62, 3) := by decide +kernel
theorem dX12_canBe_4 : decode cX12_canBe 4 = .ok (.iload_n 1, 1) := by decide +kernel
theorem dX12_canBe_5 : decode cX12_canBe 5 = .ok (.iaload, 1) := by decide +kernel
theorem dX12_canBe_6 : decode cX12_canBe 6 = .ok (.i2l, 1) := by decide +kernel
theorem dX12_canBe_7 : decode cX12_canBe 7 = .ok (.aload_n 0, 1) := by decide +kernel
theorem dX12_canBe_8 : decode cX12_canBe 8 = .ok (.getfield 47, 3) := by decide +kernel
theorem dX12_canBe_11 : decode cX12_canBe 11 = .ok (.iload_n 2, 1) := by decide +kernel
theorem dX12_canBe_12 : decode cX12_canBe 12 = .ok (.iaload, 1) := by decide +kernel
theorem dX12_canBe_13 : decode cX12_canBe 13 = .ok (.i2l, 1) := by decide +kernel
theorem dX12_canBe_14 : decode cX12_canBe 14 = .ok (.aload_n 0, 1) := by decide +kernel
theorem dX12_canBe_15 : decode cX12_canBe 15 = .ok (.getfield 50, 3) := by decide +kernel
theorem dX12_canBe_18 : decode cX12_canBe 18 = .ok (.iload_n 2, 1) := by decide +kernel
theorem dX12_canBe_19 : decode cX12_canBe 19 = .ok (.iaload, 1) := by decide +kernel
theorem dX12_canBe_20 : decode cX12_canBe 20 = .ok (.i2l, 1) := by decide +kernel
theorem dX12_canBe_21 : decode cX12_canBe 21 = .ok (.invokestatic 78, 3) := by decide +kernel
theorem dX12_canBe_24 : decode cX12_canBe 24 = .ok (.ireturn, 1) := by decide +kernel
theorem dX12_settles_0 : decode cX12_settles 0 = .ok (.aload_n 0, 1) := by decide +kernel
theorem dX12_settles_1 : decode cX12_settles 1 = .ok (.getfield 7, 3) := by decide +kernel
theorem dX12_settles_4 : decode cX12_settles 4 = .ok (.iconst 2, 1) := by decide +kernel
theorem dX12_settles_5 : decode cX12_settles 5 = .ok (.iload_n 1, 1) := by decide +kernel
theorem dX12_settles_6 : decode cX12_settles 6 = .ok (.iadd, 1) := by decide +kernel
theorem dX12_settles_7 : decode cX12_settles 7 = .ok (.iaload, 1) := by decide +kernel
theorem dX12_settles_8 : decode cX12_settles 8 = .ok (.ifCond .le 7, 3) := by decide +kernel
theorem dX12_settles_11 : decode cX12_settles 11 = .ok (.iconst 1, 1) := by decide +kernel
theorem dX12_settles_12 : decode cX12_settles 12 = .ok (.goto 4, 3) := by decide +kernel
theorem dX12_settles_15 : decode cX12_settles 15 = .ok (.iconst 0, 1) := by decide +kernel
theorem dX12_settles_16 : decode cX12_settles 16 = .ok (.istore_n 3, 1) := by decide +kernel
theorem dX12_settles_17 : decode cX12_settles 17 = .ok (.iconst 0, 1) := by decide +kernel
theorem dX12_settles_18 : decode cX12_settles 18 = .ok (.istore 4, 2) := by decide +kernel
theorem dX12_settles_20 : decode cX12_settles 20 = .ok (.iload 4, 2) := by decide +kernel
theorem dX12_settles_22 : decode cX12_settles 22 = .ok (.aload_n 0, 1) := by decide +kernel
theorem dX12_settles_23 : decode cX12_settles 23 = .ok (.getfield 7, 3) := by decide +kernel
theorem dX12_settles_26 : decode cX12_settles 26 = .ok (.iconst 2, 1) := by decide +kernel
theorem dX12_settles_27 : decode cX12_settles 27 = .ok (.iload_n 1, 1) := by decide +kernel
theorem dX12_settles_28 : decode cX12_settles 28 = .ok (.iadd, 1) := by decide +kernel
theorem dX12_settles_29 : decode cX12_settles 29 = .ok (.iaload, 1) := by decide +kernel
theorem dX12_settles_30 : decode cX12_settles 30 = .ok (.if_icmp .ge 185, 3) := by decide +kernel
theorem dX12_settles_33 : decode cX12_settles 33 = .ok (.aload_n 0, 1) := by decide +kernel
theorem dX12_settles_34 : decode cX12_settles 34 = .ok (.getfield 62, 3) := by decide +kernel
theorem dX12_settles_37 : decode cX12_settles 37 = .ok (.iload 4, 2) := by decide +kernel
theorem dX12_settles_39 : decode cX12_settles 39 = .ok (.aload_n 0, 1) := by decide +kernel
theorem dX12_settles_40 : decode cX12_settles 40 = .ok (.iload_n 1, 1) := by decide +kernel
theorem dX12_settles_41 : decode cX12_settles 41 = .ok (.iload 4, 2) := by decide +kernel
theorem dX12_settles_43 : decode cX12_settles 43 = .ok (.iload_n 2, 1) := by decide +kernel
theorem dX12_settles_44 : decode cX12_settles 44 = .ok (.invokevirtual 237, 3) := by decide +kernel
theorem dX12_settles_47 : decode cX12_settles 47 = .ok (.iastore, 1) := by decide +kernel
theorem dX12_settles_48 : decode cX12_settles 48 = .ok (.aload_n 0, 1) := by decide +kernel
theorem dX12_settles_49 : decode cX12_settles 49 = .ok (.getfield 53, 3) := by decide +kernel
theorem dX12_settles_52 : decode cX12_settles 52 = .ok (.iload 4, 2) := by decide +kernel
theorem dX12_settles_54 : decode cX12_settles 54 = .ok (.iconst 0, 1) := by decide +kernel
theorem dX12_settles_55 : decode cX12_settles 55 = .ok (.iastore, 1) := by decide +kernel
theorem dX12_settles_56 : decode cX12_settles 56 = .ok (.aload_n 0, 1) := by decide +kernel
theorem dX12_settles_57 : decode cX12_settles 57 = .ok (.getfield 56, 3) := by decide +kernel
theorem dX12_settles_60 : decode cX12_settles 60 = .ok (.iload 4, 2) := by decide +kernel
theorem dX12_settles_62 : decode cX12_settles 62 = .ok (.iconst 0, 1) := by decide +kernel
theorem dX12_settles_63 : decode cX12_settles 63 = .ok (.iastore, 1) := by decide +kernel
theorem dX12_settles_64 : decode cX12_settles 64 = .ok (.aload_n 0, 1) := by decide +kernel
theorem dX12_settles_65 : decode cX12_settles 65 = .ok (.getfield 59, 3) := by decide +kernel
theorem dX12_settles_68 : decode cX12_settles 68 = .ok (.iload 4, 2) := by decide +kernel
theorem dX12_settles_70 : decode cX12_settles 70 = .ok (.iconst 0, 1) := by decide +kernel
theorem dX12_settles_71 : decode cX12_settles 71 = .ok (.iastore, 1) := by decide +kernel
theorem dX12_settles_72 : decode cX12_settles 72 = .ok (.iconst 0, 1) := by decide +kernel
theorem dX12_settles_73 : decode cX12_settles 73 = .ok (.istore 5, 2) := by decide +kernel
theorem dX12_settles_75 : decode cX12_settles 75 = .ok (.iload 5, 2) := by decide +kernel
theorem dX12_settles_77 : decode cX12_settles 77 = .ok (.sipush 1000, 3) := by decide +kernel
theorem dX12_settles_80 : decode cX12_settles 80 = .ok (.if_icmp .ge 109, 3) := by decide +kernel
theorem dX12_settles_83 : decode cX12_settles 83 = .ok (.aload_n 0, 1) := by decide +kernel
theorem dX12_settles_84 : decode cX12_settles 84 = .ok (.iload 4, 2) := by decide +kernel
theorem dX12_settles_86 : decode cX12_settles 86 = .ok (.iload 5, 2) := by decide +kernel
theorem dX12_settles_88 : decode cX12_settles 88 = .ok (.invokevirtual 240, 3) := by decide +kernel
theorem dX12_settles_91 : decode cX12_settles 91 = .ok (.ifCond .eq 92, 3) := by decide +kernel
theorem dX12_settles_94 : decode cX12_settles 94 = .ok (.iload 5, 2) := by decide +kernel
theorem dX12_settles_96 : decode cX12_settles 96 = .ok (.ifCond .eq 16, 3) := by decide +kernel
theorem dX12_settles_99 : decode cX12_settles 99 = .ok (.aload_n 0, 1) := by decide +kernel
theorem dX12_settles_100 : decode cX12_settles 100 = .ok (.iload 4, 2) := by decide +kernel
theorem dX12_settles_102 : decode cX12_settles 102 = .ok (.iload 5, 2) := by decide +kernel
theorem dX12_settles_104 : decode cX12_settles 104 = .ok (.iconst 1, 1) := by decide +kernel
theorem dX12_settles_105 : decode cX12_settles 105 = .ok (.isub, 1) := by decide +kernel
theorem dX12_settles_106 : decode cX12_settles 106 = .ok (.invokevirtual 240, 3) := by decide +kernel
theorem dX12_settles_109 : decode cX12_settles 109 = .ok (.ifCond .ne 44, 3) := by decide +kernel
theorem dX12_settles_112 : decode cX12_settles 112 = .ok (.aload_n 0, 1) := by decide +kernel
theorem dX12_settles_113 : decode cX12_settles 113 = .ok (.getfield 53, 3) := by decide +kernel
theorem dX12_settles_116 : decode cX12_settles 116 = .ok (.iload 4, 2) := by decide +kernel
theorem dX12_settles_118 : decode cX12_settles 118 = .ok (.dup2, 1) := by decide +kernel
theorem dX12_settles_119 : decode cX12_settles 119 = .ok (.iaload, 1) := by decide +kernel
theorem dX12_settles_120 : decode cX12_settles 120 = .ok (.iconst 1, 1) := by decide +kernel
theorem dX12_settles_121 : decode cX12_settles 121 = .ok (.iadd, 1) := by decide +kernel
theorem dX12_settles_122 : decode cX12_settles 122 = .ok (.iastore, 1) := by decide +kernel
theorem dX12_settles_123 : decode cX12_settles 123 = .ok (.aload_n 0, 1) := by decide +kernel
theorem dX12_settles_124 : decode cX12_settles 124 = .ok (.getfield 56, 3) := by decide +kernel
theorem dX12_settles_127 : decode cX12_settles 127 = .ok (.iload 4, 2) := by decide +kernel
theorem dX12_settles_129 : decode cX12_settles 129 = .ok (.aload_n 0, 1) := by decide +kernel
theorem dX12_settles_130 : decode cX12_settles 130 = .ok (.getfield 53, 3) := by decide +kernel
theorem dX12_settles_133 : decode cX12_settles 133 = .ok (.iload 4, 2) := by decide +kernel
theorem dX12_settles_135 : decode cX12_settles 135 = .ok (.iaload, 1) := by decide +kernel
theorem dX12_settles_136 : decode cX12_settles 136 = .ok (.iconst 1, 1) := by decide +kernel
theorem dX12_settles_137 : decode cX12_settles 137 = .ok (.if_icmp .ne 8, 3) := by decide +kernel
theorem dX12_settles_140 : decode cX12_settles 140 = .ok (.iload 5, 2) := by decide +kernel
theorem dX12_settles_142 : decode cX12_settles 142 = .ok (.goto 10, 3) := by decide +kernel
theorem dX12_settles_145 : decode cX12_settles 145 = .ok (.aload_n 0, 1) := by decide +kernel
theorem dX12_settles_146 : decode cX12_settles 146 = .ok (.getfield 56, 3) := by decide +kernel
theorem dX12_settles_149 : decode cX12_settles 149 = .ok (.iload 4, 2) := by decide +kernel
theorem dX12_settles_151 : decode cX12_settles 151 = .ok (.iaload, 1) := by decide +kernel
theorem dX12_settles_152 : decode cX12_settles 152 = .ok (.iastore, 1) := by decide +kernel
theorem dX12_settles_153 : decode cX12_settles 153 = .ok (.aload_n 0, 1) := by decide +kernel
theorem dX12_settles_154 : decode cX12_settles 154 = .ok (.getfield 59, 3) := by decide +kernel
theorem dX12_settles_157 : decode cX12_settles 157 = .ok (.iload 4, 2) := by decide +kernel
theorem dX12_settles_159 : decode cX12_settles 159 = .ok (.aload_n 0, 1) := by decide +kernel
theorem dX12_settles_160 : decode cX12_settles 160 = .ok (.getfield 53, 3) := by decide +kernel
theorem dX12_settles_163 : decode cX12_settles 163 = .ok (.iload 4, 2) := by decide +kernel
theorem dX12_settles_165 : decode cX12_settles 165 = .ok (.iaload, 1) := by decide +kernel
theorem dX12_settles_166 : decode cX12_settles 166 = .ok (.iconst 1, 1) := by decide +kernel
theorem dX12_settles_167 : decode cX12_settles 167 = .ok (.if_icmp .ne 8, 3) := by decide +kernel
theorem dX12_settles_170 : decode cX12_settles 170 = .ok (.iload 5, 2) := by decide +kernel
theorem dX12_settles_172 : decode cX12_settles 172 = .ok (.goto 10, 3) := by decide +kernel
theorem dX12_settles_175 : decode cX12_settles 175 = .ok (.aload_n 0, 1) := by decide +kernel
theorem dX12_settles_176 : decode cX12_settles 176 = .ok (.getfield 59, 3) := by decide +kernel
theorem dX12_settles_179 : decode cX12_settles 179 = .ok (.iload 4, 2) := by decide +kernel
theorem dX12_settles_181 : decode cX12_settles 181 = .ok (.iaload, 1) := by decide +kernel
theorem dX12_settles_182 : decode cX12_settles 182 = .ok (.iastore, 1) := by decide +kernel
theorem dX12_settles_183 : decode cX12_settles 183 = .ok (.iinc 5 1, 3) := by decide +kernel
theorem dX12_settles_186 : decode cX12_settles 186 = .ok (.goto (-111), 3) := by decide +kernel
theorem dX12_settles_189 : decode cX12_settles 189 = .ok (.iload_n 3, 1) := by decide +kernel
theorem dX12_settles_190 : decode cX12_settles 190 = .ok (.ifCond .eq 17, 3) := by decide +kernel
theorem dX12_settles_193 : decode cX12_settles 193 = .ok (.aload_n 0, 1) := by decide +kernel
theorem dX12_settles_194 : decode cX12_settles 194 = .ok (.getfield 53, 3) := by decide +kernel
theorem dX12_settles_197 : decode cX12_settles 197 = .ok (.iload 4, 2) := by decide +kernel
theorem dX12_settles_199 : decode cX12_settles 199 = .ok (.iaload, 1) := by decide +kernel
theorem dX12_settles_200 : decode cX12_settles 200 = .ok (.ifCond .le 7, 3) := by decide +kernel
theorem dX12_settles_203 : decode cX12_settles 203 = .ok (.iconst 1, 1) := by decide +kernel
theorem dX12_settles_204 : decode cX12_settles 204 = .ok (.goto 4, 3) := by decide +kernel
theorem dX12_settles_207 : decode cX12_settles 207 = .ok (.iconst 0, 1) := by decide +kernel
theorem dX12_settles_208 : decode cX12_settles 208 = .ok (.istore_n 3, 1) := by decide +kernel
theorem dX12_settles_209 : decode cX12_settles 209 = .ok (.iinc 4 1, 3) := by decide +kernel
theorem dX12_settles_212 : decode cX12_settles 212 = .ok (.goto (-192), 3) := by decide +kernel
theorem dX12_settles_215 : decode cX12_settles 215 = .ok (.iload_n 3, 1) := by decide +kernel
theorem dX12_settles_216 : decode cX12_settles 216 = .ok (.ireturn, 1) := by decide +kernel
theorem dX12_least_0 : decode cX12_least 0 = .ok (.aload_n 0, 1) := by decide +kernel
theorem dX12_least_1 : decode cX12_least 1 = .ok (.iload_n 1, 1) := by decide +kernel
theorem dX12_least_2 : decode cX12_least 2 = .ok (.iaload, 1) := by decide +kernel
theorem dX12_least_3 : decode cX12_least 3 = .ok (.istore_n 3, 1) := by decide +kernel
theorem dX12_least_4 : decode cX12_least 4 = .ok (.iload_n 1, 1) := by decide +kernel
theorem dX12_least_5 : decode cX12_least 5 = .ok (.istore 4, 2) := by decide +kernel
theorem dX12_least_7 : decode cX12_least 7 = .ok (.iload 4, 2) := by decide +kernel
theorem dX12_least_9 : decode cX12_least 9 = .ok (.iload_n 2, 1) := by decide +kernel
theorem dX12_least_10 : decode cX12_least 10 = .ok (.if_icmp .gt 26, 3) := by decide +kernel
theorem dX12_least_13 : decode cX12_least 13 = .ok (.aload_n 0, 1) := by decide +kernel
theorem dX12_least_14 : decode cX12_least 14 = .ok (.iload 4, 2) := by decide +kernel
theorem dX12_least_16 : decode cX12_least 16 = .ok (.iaload, 1) := by decide +kernel
theorem dX12_least_17 : decode cX12_least 17 = .ok (.iload_n 3, 1) := by decide +kernel
theorem dX12_least_18 : decode cX12_least 18 = .ok (.if_icmp .ge 10, 3) := by decide +kernel
theorem dX12_least_21 : decode cX12_least 21 = .ok (.aload_n 0, 1) := by decide +kernel
theorem dX12_least_22 : decode cX12_least 22 = .ok (.iload 4, 2) := by decide +kernel
theorem dX12_least_24 : decode cX12_least 24 = .ok (.iaload, 1) := by decide +kernel
theorem dX12_least_25 : decode cX12_least 25 = .ok (.goto 4, 3) := by decide +kernel
theorem dX12_least_28 : decode cX12_least 28 = .ok (.iload_n 3, 1) := by decide +kernel
theorem dX12_least_29 : decode cX12_least 29 = .ok (.istore_n 3, 1) := by decide +kernel
theorem dX12_least_30 : decode cX12_least 30 = .ok (.iinc 4 1, 3) := by decide +kernel
theorem dX12_least_33 : decode cX12_least 33 = .ok (.goto (-26), 3) := by decide +kernel
theorem dX12_least_36 : decode cX12_least 36 = .ok (.iload_n 3, 1) := by decide +kernel
theorem dX12_least_37 : decode cX12_least 37 = .ok (.ireturn, 1) := by decide +kernel
theorem dX12_most_0 : decode cX12_most 0 = .ok (.aload_n 0, 1) := by decide +kernel
theorem dX12_most_1 : decode cX12_most 1 = .ok (.iload_n 1, 1) := by decide +kernel
theorem dX12_most_2 : decode cX12_most 2 = .ok (.iaload, 1) := by decide +kernel
theorem dX12_most_3 : decode cX12_most 3 = .ok (.istore_n 3, 1) := by decide +kernel
theorem dX12_most_4 : decode cX12_most 4 = .ok (.iload_n 1, 1) := by decide +kernel
theorem dX12_most_5 : decode cX12_most 5 = .ok (.istore 4, 2) := by decide +kernel
theorem dX12_most_7 : decode cX12_most 7 = .ok (.iload 4, 2) := by decide +kernel
theorem dX12_most_9 : decode cX12_most 9 = .ok (.iload_n 2, 1) := by decide +kernel
theorem dX12_most_10 : decode cX12_most 10 = .ok (.if_icmp .gt 26, 3) := by decide +kernel
theorem dX12_most_13 : decode cX12_most 13 = .ok (.aload_n 0, 1) := by decide +kernel
theorem dX12_most_14 : decode cX12_most 14 = .ok (.iload 4, 2) := by decide +kernel
theorem dX12_most_16 : decode cX12_most 16 = .ok (.iaload, 1) := by decide +kernel
theorem dX12_most_17 : decode cX12_most 17 = .ok (.iload_n 3, 1) := by decide +kernel
theorem dX12_most_18 : decode cX12_most 18 = .ok (.if_icmp .le 10, 3) := by decide +kernel
theorem dX12_most_21 : decode cX12_most 21 = .ok (.aload_n 0, 1) := by decide +kernel
theorem dX12_most_22 : decode cX12_most 22 = .ok (.iload 4, 2) := by decide +kernel
theorem dX12_most_24 : decode cX12_most 24 = .ok (.iaload, 1) := by decide +kernel
theorem dX12_most_25 : decode cX12_most 25 = .ok (.goto 4, 3) := by decide +kernel
theorem dX12_most_28 : decode cX12_most 28 = .ok (.iload_n 3, 1) := by decide +kernel
theorem dX12_most_29 : decode cX12_most 29 = .ok (.istore_n 3, 1) := by decide +kernel
theorem dX12_most_30 : decode cX12_most 30 = .ok (.iinc 4 1, 3) := by decide +kernel
theorem dX12_most_33 : decode cX12_most 33 = .ok (.goto (-26), 3) := by decide +kernel
theorem dX12_most_36 : decode cX12_most 36 = .ok (.iload_n 3, 1) := by decide +kernel
theorem dX12_most_37 : decode cX12_most 37 = .ok (.ireturn, 1) := by decide +kernel
theorem dX12_throughOf_0 : decode cX12_throughOf 0 = .ok (.lconst 0, 1) := by decide +kernel
theorem dX12_throughOf_1 : decode cX12_throughOf 1 = .ok (.lstore 4, 2) := by decide +kernel
theorem dX12_throughOf_3 : decode cX12_throughOf 3 = .ok (.iconst 0, 1) := by decide +kernel
theorem dX12_throughOf_4 : decode cX12_throughOf 4 = .ok (.istore 6, 2) := by decide +kernel
theorem dX12_throughOf_6 : decode cX12_throughOf 6 = .ok (.iload 6, 2) := by decide +kernel
theorem dX12_throughOf_8 : decode cX12_throughOf 8 = .ok (.iload_n 2, 1) := by decide +kernel
theorem dX12_throughOf_9 : decode cX12_throughOf 9 = .ok (.if_icmp .gt 153, 3) := by decide +kernel
theorem dX12_throughOf_12 : decode cX12_throughOf 12 = .ok (.iconst 0, 1) := by decide +kernel
theorem dX12_throughOf_13 : decode cX12_throughOf 13 = .ok (.istore 7, 2) := by decide +kernel
theorem dX12_throughOf_15 : decode cX12_throughOf 15 = .ok (.iload 7, 2) := by decide +kernel
theorem dX12_throughOf_17 : decode cX12_throughOf 17 = .ok (.iconst 5, 1) := by decide +kernel
theorem dX12_throughOf_18 : decode cX12_throughOf 18 = .ok (.if_icmp .ge 138, 3) := by decide +kernel
theorem dX12_throughOf_21 : decode cX12_throughOf 21 = .ok (.aload_n 0, 1) := by decide +kernel
theorem dX12_throughOf_22 : decode cX12_throughOf 22 = .ok (.iload 7, 2) := by decide +kernel
theorem dX12_throughOf_24 : decode cX12_throughOf 24 = .ok (.invokevirtual 202, 3) := by decide +kernel
theorem dX12_throughOf_27 : decode cX12_throughOf 27 = .ok (.ifCond .eq 123, 3) := by decide +kernel
theorem dX12_throughOf_30 : decode cX12_throughOf 30 = .ok (.aload_n 0, 1) := by decide +kernel
theorem dX12_throughOf_31 : decode cX12_throughOf 31 = .ok (.iload_n 1, 1) := by decide +kernel
theorem dX12_throughOf_32 : decode cX12_throughOf 32 = .ok (.iload 6, 2) := by decide +kernel
theorem dX12_throughOf_34 : decode cX12_throughOf 34 = .ok (.aload_n 0, 1) := by decide +kernel
theorem dX12_throughOf_35 : decode cX12_throughOf 35 = .ok (.iload 7, 2) := by decide +kernel
theorem dX12_throughOf_37 : decode cX12_throughOf 37 = .ok (.iconst 0, 1) := by decide +kernel
theorem dX12_throughOf_38 : decode cX12_throughOf 38 = .ok (.invokevirtual 205, 3) := by decide +kernel
theorem dX12_throughOf_41 : decode cX12_throughOf 41 = .ok (.invokevirtual 228, 3) := by decide +kernel
theorem dX12_throughOf_44 : decode cX12_throughOf 44 = .ok (.aload_n 0, 1) := by decide +kernel
theorem dX12_throughOf_45 : decode cX12_throughOf 45 = .ok (.iload 7, 2) := by decide +kernel
theorem dX12_throughOf_47 : decode cX12_throughOf 47 = .ok (.iconst 1, 1) := by decide +kernel
theorem dX12_throughOf_48 : decode cX12_throughOf 48 = .ok (.invokevirtual 205, 3) := by decide +kernel
theorem dX12_throughOf_51 : decode cX12_throughOf 51 = .ok (.idiv, 1) := by decide +kernel
theorem dX12_throughOf_52 : decode cX12_throughOf 52 = .ok (.istore 8, 2) := by decide +kernel
theorem dX12_throughOf_54 : decode cX12_throughOf 54 = .ok (.sipush 1000, 3) := by decide +kernel
theorem dX12_throughOf_57 : decode cX12_throughOf 57 = .ok (.iconst 2, 1) := by decide +kernel
theorem dX12_throughOf_58 : decode cX12_throughOf 58 = .ok (.iload 7, 2) := by decide +kernel
theorem dX12_throughOf_60 : decode cX12_throughOf 60 = .ok (.iadd, 1) := by decide +kernel
theorem dX12_throughOf_61 : decode cX12_throughOf 61 = .ok (.imul, 1) := by decide +kernel
theorem dX12_throughOf_62 : decode cX12_throughOf 62 = .ok (.aload_n 0, 1) := by decide +kernel
theorem dX12_throughOf_63 : decode cX12_throughOf 63 = .ok (.getfield 56, 3) := by decide +kernel
theorem dX12_throughOf_66 : decode cX12_throughOf 66 = .ok (.iload 6, 2) := by decide +kernel
theorem dX12_throughOf_68 : decode cX12_throughOf 68 = .ok (.iaload, 1) := by decide +kernel
theorem dX12_throughOf_69 : decode cX12_throughOf 69 = .ok (.iadd, 1) := by decide +kernel
theorem dX12_throughOf_70 : decode cX12_throughOf 70 = .ok (.istore 9, 2) := by decide +kernel
theorem dX12_throughOf_72 : decode cX12_throughOf 72 = .ok (.sipush 1000, 3) := by decide +kernel
theorem dX12_throughOf_75 : decode cX12_throughOf 75 = .ok (.iconst 2, 1) := by decide +kernel
theorem dX12_throughOf_76 : decode cX12_throughOf 76 = .ok (.iload 7, 2) := by decide +kernel
theorem dX12_throughOf_78 : decode cX12_throughOf 78 = .ok (.iadd, 1) := by decide +kernel
theorem dX12_throughOf_79 : decode cX12_throughOf 79 = .ok (.imul, 1) := by decide +kernel
theorem dX12_throughOf_80 : decode cX12_throughOf 80 = .ok (.aload_n 0, 1) := by decide +kernel
theorem dX12_throughOf_81 : decode cX12_throughOf 81 = .ok (.getfield 59, 3) := by decide +kernel
theorem dX12_throughOf_84 : decode cX12_throughOf 84 = .ok (.iload 6, 2) := by decide +kernel
theorem dX12_throughOf_86 : decode cX12_throughOf 86 = .ok (.iaload, 1) := by decide +kernel
theorem dX12_throughOf_87 : decode cX12_throughOf 87 = .ok (.iadd, 1) := by decide +kernel
theorem dX12_throughOf_88 : decode cX12_throughOf 88 = .ok (.istore 10, 2) := by decide +kernel
theorem dX12_throughOf_90 : decode cX12_throughOf 90 = .ok (.iload_n 3, 1) := by decide +kernel
theorem dX12_throughOf_91 : decode cX12_throughOf 91 = .ok (.ifCond .eq 17, 3) := by decide +kernel
theorem dX12_throughOf_94 : decode cX12_throughOf 94 = .ok (.aload_n 0, 1) := by decide +kernel
theorem dX12_throughOf_95 : decode cX12_throughOf 95 = .ok (.getfield 50, 3) := by decide +kernel
theorem dX12_throughOf_98 : decode cX12_throughOf 98 = .ok (.iload 9, 2) := by decide +kernel
theorem dX12_throughOf_100 : decode cX12_throughOf 100 = .ok (.iload 10, 2) := by decide +kernel
theorem dX12_throughOf_102 : decode cX12_throughOf 102 = .ok (.invokestatic 243, 3) := by decide +kernel
theorem dX12_throughOf_105 : decode cX12_throughOf 105 = .ok (.goto 14, 3) := by decide +kernel
theorem dX12_throughOf_108 : decode cX12_throughOf 108 = .ok (.aload_n 0, 1) := by decide +kernel
theorem dX12_throughOf_109 : decode cX12_throughOf 109 = .ok (.getfield 47, 3) := by decide +kernel
theorem dX12_throughOf_112 : decode cX12_throughOf 112 = .ok (.iload 9, 2) := by decide +kernel
theorem dX12_throughOf_114 : decode cX12_throughOf 114 = .ok (.iload 10, 2) := by decide +kernel
theorem dX12_throughOf_116 : decode cX12_throughOf 116 = .ok (.invokestatic 247, 3) := by decide +kernel
theorem dX12_throughOf_119 : decode cX12_throughOf 119 = .ok (.istore 11, 2) := by decide +kernel
theorem dX12_throughOf_121 : decode cX12_throughOf 121 = .ok (.lload 4, 2) := by decide +kernel
theorem dX12_throughOf_123 : decode cX12_throughOf 123 = .ok (.iload 8, 2) := by decide +kernel
theorem dX12_throughOf_125 : decode cX12_throughOf 125 = .ok (.iload 11, 2) := by decide +kernel
theorem dX12_throughOf_127 : decode cX12_throughOf 127 = .ok (.if_icmp .ge 8, 3) := by decide +kernel
theorem dX12_throughOf_130 : decode cX12_throughOf 130 = .ok (.iload 8, 2) := by decide +kernel
theorem dX12_throughOf_132 : decode cX12_throughOf 132 = .ok (.goto 5, 3) := by decide +kernel
theorem dX12_throughOf_135 : decode cX12_throughOf 135 = .ok (.iload 11, 2) := by decide +kernel
theorem dX12_throughOf_137 : decode cX12_throughOf 137 = .ok (.i2l, 1) := by decide +kernel
theorem dX12_throughOf_138 : decode cX12_throughOf 138 = .ok (.aload_n 0, 1) := by decide +kernel
theorem dX12_throughOf_139 : decode cX12_throughOf 139 = .ok (.iload 7, 2) := by decide +kernel
theorem dX12_throughOf_141 : decode cX12_throughOf 141 = .ok (.iconst 4, 1) := by decide +kernel
theorem dX12_throughOf_142 : decode cX12_throughOf 142 = .ok (.invokevirtual 205, 3) := by decide +kernel
theorem dX12_throughOf_145 : decode cX12_throughOf 145 = .ok (.i2l, 1) := by decide +kernel
theorem dX12_throughOf_146 : decode cX12_throughOf 146 = .ok (.lmul, 1) := by decide +kernel
theorem dX12_throughOf_147 : decode cX12_throughOf 147 = .ok (.ladd, 1) := by decide +kernel
theorem dX12_throughOf_148 : decode cX12_throughOf 148 = .ok (.lstore 4, 2) := by decide +kernel
theorem dX12_throughOf_150 : decode cX12_throughOf 150 = .ok (.iinc 7 1, 3) := by decide +kernel
theorem dX12_throughOf_153 : decode cX12_throughOf 153 = .ok (.goto (-138), 3) := by decide +kernel
theorem dX12_throughOf_156 : decode cX12_throughOf 156 = .ok (.iinc 6 1, 3) := by decide +kernel
theorem dX12_throughOf_159 : decode cX12_throughOf 159 = .ok (.goto (-153), 3) := by decide +kernel
theorem dX12_throughOf_162 : decode cX12_throughOf 162 = .ok (.lload 4, 2) := by decide +kernel
theorem dX12_throughOf_164 : decode cX12_throughOf 164 = .ok (.lreturn, 1) := by decide +kernel
theorem dX12_churns_0 : decode cX12_churns 0 = .ok (.sipush 1000, 3) := by decide +kernel
theorem dX12_churns_3 : decode cX12_churns 3 = .ok (.aload_n 0, 1) := by decide +kernel
theorem dX12_churns_4 : decode cX12_churns 4 = .ok (.getfield 56, 3) := by decide +kernel
theorem dX12_churns_7 : decode cX12_churns 7 = .ok (.iload_n 2, 1) := by decide +kernel
theorem dX12_churns_8 : decode cX12_churns 8 = .ok (.iaload, 1) := by decide +kernel
theorem dX12_churns_9 : decode cX12_churns 9 = .ok (.iadd, 1) := by decide +kernel
theorem dX12_churns_10 : decode cX12_churns 10 = .ok (.istore_n 3, 1) := by decide +kernel
theorem dX12_churns_11 : decode cX12_churns 11 = .ok (.sipush 1000, 3) := by decide +kernel
theorem dX12_churns_14 : decode cX12_churns 14 = .ok (.aload_n 0, 1) := by decide +kernel
theorem dX12_churns_15 : decode cX12_churns 15 = .ok (.getfield 59, 3) := by decide +kernel
theorem dX12_churns_18 : decode cX12_churns 18 = .ok (.iload_n 2, 1) := by decide +kernel
theorem dX12_churns_19 : decode cX12_churns 19 = .ok (.iaload, 1) := by decide +kernel
theorem dX12_churns_20 : decode cX12_churns 20 = .ok (.iadd, 1) := by decide +kernel
theorem dX12_churns_21 : decode cX12_churns 21 = .ok (.istore 4, 2) := by decide +kernel
theorem dX12_churns_23 : decode cX12_churns 23 = .ok (.aload_n 0, 1) := by decide +kernel
theorem dX12_churns_24 : decode cX12_churns 24 = .ok (.iload_n 1, 1) := by decide +kernel
theorem dX12_churns_25 : decode cX12_churns 25 = .ok (.iload_n 2, 1) := by decide +kernel
theorem dX12_churns_26 : decode cX12_churns 26 = .ok (.iconst 1, 1) := by decide +kernel
theorem dX12_churns_27 : decode cX12_churns 27 = .ok (.invokevirtual 250, 3) := by decide +kernel
theorem dX12_churns_30 : decode cX12_churns 30 = .ok (.aload_n 0, 1) := by decide +kernel
theorem dX12_churns_31 : decode cX12_churns 31 = .ok (.getfield 50, 3) := by decide +kernel
theorem dX12_churns_34 : decode cX12_churns 34 = .ok (.iload_n 3, 1) := by decide +kernel
theorem dX12_churns_35 : decode cX12_churns 35 = .ok (.iload 4, 2) := by decide +kernel
theorem dX12_churns_37 : decode cX12_churns 37 = .ok (.invokestatic 243, 3) := by decide +kernel
theorem dX12_churns_40 : decode cX12_churns 40 = .ok (.i2l, 1) := by decide +kernel
theorem dX12_churns_41 : decode cX12_churns 41 = .ok (.lmul, 1) := by decide +kernel
theorem dX12_churns_42 : decode cX12_churns 42 = .ok (.ldc2_w 254, 3) := by decide +kernel
theorem dX12_churns_45 : decode cX12_churns 45 = .ok (.ldiv, 1) := by decide +kernel
theorem dX12_churns_46 : decode cX12_churns 46 = .ok (.lstore 5, 2) := by decide +kernel
theorem dX12_churns_48 : decode cX12_churns 48 = .ok (.aload_n 0, 1) := by decide +kernel
theorem dX12_churns_49 : decode cX12_churns 49 = .ok (.iload_n 1, 1) := by decide +kernel
theorem dX12_churns_50 : decode cX12_churns 50 = .ok (.iload_n 2, 1) := by decide +kernel
theorem dX12_churns_51 : decode cX12_churns 51 = .ok (.iconst 0, 1) := by decide +kernel
theorem dX12_churns_52 : decode cX12_churns 52 = .ok (.invokevirtual 250, 3) := by decide +kernel
theorem dX12_churns_55 : decode cX12_churns 55 = .ok (.aload_n 0, 1) := by decide +kernel
theorem dX12_churns_56 : decode cX12_churns 56 = .ok (.getfield 47, 3) := by decide +kernel
theorem dX12_churns_59 : decode cX12_churns 59 = .ok (.iload_n 3, 1) := by decide +kernel
theorem dX12_churns_60 : decode cX12_churns 60 = .ok (.iload 4, 2) := by decide +kernel
theorem dX12_churns_62 : decode cX12_churns 62 = .ok (.invokestatic 247, 3) := by decide +kernel
theorem dX12_churns_65 : decode cX12_churns 65 = .ok (.i2l, 1) := by decide +kernel
theorem dX12_churns_66 : decode cX12_churns 66 = .ok (.lmul, 1) := by decide +kernel
theorem dX12_churns_67 : decode cX12_churns 67 = .ok (.ldc2_w 254, 3) := by decide +kernel
theorem dX12_churns_70 : decode cX12_churns 70 = .ok (.ldiv, 1) := by decide +kernel
theorem dX12_churns_71 : decode cX12_churns 71 = .ok (.lstore 7, 2) := by decide +kernel
theorem dX12_churns_73 : decode cX12_churns 73 = .ok (.lload 5, 2) := by decide +kernel
theorem dX12_churns_75 : decode cX12_churns 75 = .ok (.aload_n 0, 1) := by decide +kernel
theorem dX12_churns_76 : decode cX12_churns 76 = .ok (.getfield 7, 3) := by decide +kernel
theorem dX12_churns_79 : decode cX12_churns 79 = .ok (.bipush 10, 2) := by decide +kernel
theorem dX12_churns_81 : decode cX12_churns 81 = .ok (.iload_n 1, 1) := by decide +kernel
theorem dX12_churns_82 : decode cX12_churns 82 = .ok (.iadd, 1) := by decide +kernel
theorem dX12_churns_83 : decode cX12_churns 83 = .ok (.iaload, 1) := by decide +kernel
theorem dX12_churns_84 : decode cX12_churns 84 = .ok (.i2l, 1) := by decide +kernel
theorem dX12_churns_85 : decode cX12_churns 85 = .ok (.lcmp, 1) := by decide +kernel
theorem dX12_churns_86 : decode cX12_churns 86 = .ok (.ifCond .gt 7, 3) := by decide +kernel
theorem dX12_churns_89 : decode cX12_churns 89 = .ok (.iconst 0, 1) := by decide +kernel
theorem dX12_churns_90 : decode cX12_churns 90 = .ok (.goto 24, 3) := by decide +kernel
theorem dX12_churns_93 : decode cX12_churns 93 = .ok (.lload 7, 2) := by decide +kernel
theorem dX12_churns_95 : decode cX12_churns 95 = .ok (.aload_n 0, 1) := by decide +kernel
theorem dX12_churns_96 : decode cX12_churns 96 = .ok (.getfield 7, 3) := by decide +kernel
theorem dX12_churns_99 : decode cX12_churns 99 = .ok (.bipush 10, 2) := by decide +kernel
theorem dX12_churns_101 : decode cX12_churns 101 = .ok (.iload_n 1, 1) := by decide +kernel
theorem dX12_churns_102 : decode cX12_churns 102 = .ok (.iadd, 1) := by decide +kernel
theorem dX12_churns_103 : decode cX12_churns 103 = .ok (.iaload, 1) := by decide +kernel
theorem dX12_churns_104 : decode cX12_churns 104 = .ok (.i2l, 1) := by decide +kernel
theorem dX12_churns_105 : decode cX12_churns 105 = .ok (.lcmp, 1) := by decide +kernel
theorem dX12_churns_106 : decode cX12_churns 106 = .ok (.ifCond .le 7, 3) := by decide +kernel
theorem dX12_churns_109 : decode cX12_churns 109 = .ok (.iconst 1, 1) := by decide +kernel
theorem dX12_churns_110 : decode cX12_churns 110 = .ok (.goto 4, 3) := by decide +kernel
theorem dX12_churns_113 : decode cX12_churns 113 = .ok (.iconst 2, 1) := by decide +kernel
theorem dX12_churns_114 : decode cX12_churns 114 = .ok (.ireturn, 1) := by decide +kernel
theorem dX12_of_0 : decode cX12_of 0 = .ok (.aload_n 0, 1) := by decide +kernel
theorem dX12_of_1 : decode cX12_of 1 = .ok (.iload_n 1, 1) := by decide +kernel
theorem dX12_of_2 : decode cX12_of 2 = .ok (.iload_n 2, 1) := by decide +kernel
theorem dX12_of_3 : decode cX12_of 3 = .ok (.invokevirtual 218, 3) := by decide +kernel
theorem dX12_of_6 : decode cX12_of 6 = .ok (.ifCond .eq 15, 3) := by decide +kernel
theorem dX12_of_9 : decode cX12_of 9 = .ok (.iload_n 3, 1) := by decide +kernel
theorem dX12_of_10 : decode cX12_of 10 = .ok (.i2l, 1) := by decide +kernel
theorem dX12_of_11 : decode cX12_of 11 = .ok (.lconst 0, 1) := by decide +kernel
theorem dX12_of_12 : decode cX12_of 12 = .ok (.ldc2_w 197, 3) := by decide +kernel
theorem dX12_of_15 : decode cX12_of 15 = .ok (.invokestatic 78, 3) := by decide +kernel
theorem dX12_of_18 : decode cX12_of 18 = .ok (.ifCond .ne 5, 3) := by decide +kernel
theorem dX12_of_21 : decode cX12_of 21 = .ok (.iconst (-1), 1) := by decide +kernel
theorem dX12_of_22 : decode cX12_of 22 = .ok (.ireturn, 1) := by decide +kernel
theorem dX12_of_23 : decode cX12_of 23 = .ok (.iload_n 3, 1) := by decide +kernel
theorem dX12_of_24 : decode cX12_of 24 = .ok (.ifCond .ne 10, 3) := by decide +kernel
theorem dX12_of_27 : decode cX12_of 27 = .ok (.aload_n 0, 1) := by decide +kernel
theorem dX12_of_28 : decode cX12_of 28 = .ok (.iload_n 1, 1) := by decide +kernel
theorem dX12_of_29 : decode cX12_of 29 = .ok (.iload_n 2, 1) := by decide +kernel
theorem dX12_of_30 : decode cX12_of 30 = .ok (.invokevirtual 234, 3) := by decide +kernel
theorem dX12_of_33 : decode cX12_of 33 = .ok (.ireturn, 1) := by decide +kernel
theorem dX12_of_34 : decode cX12_of 34 = .ok (.aload_n 0, 1) := by decide +kernel
theorem dX12_of_35 : decode cX12_of 35 = .ok (.invokevirtual 256, 3) := by decide +kernel
theorem dX12_of_38 : decode cX12_of 38 = .ok (.aload_n 0, 1) := by decide +kernel
theorem dX12_of_39 : decode cX12_of 39 = .ok (.iload_n 1, 1) := by decide +kernel
theorem dX12_of_40 : decode cX12_of 40 = .ok (.aload_n 0, 1) := by decide +kernel
theorem dX12_of_41 : decode cX12_of 41 = .ok (.getfield 7, 3) := by decide +kernel
theorem dX12_of_44 : decode cX12_of 44 = .ok (.bipush 8, 2) := by decide +kernel
theorem dX12_of_46 : decode cX12_of 46 = .ok (.iload_n 1, 1) := by decide +kernel
theorem dX12_of_47 : decode cX12_of 47 = .ok (.iadd, 1) := by decide +kernel
theorem dX12_of_48 : decode cX12_of 48 = .ok (.iaload, 1) := by decide +kernel
theorem dX12_of_49 : decode cX12_of 49 = .ok (.invokevirtual 259, 3) := by decide +kernel
theorem dX12_of_52 : decode cX12_of 52 = .ok (.istore 4, 2) := by decide +kernel
theorem dX12_of_54 : decode cX12_of 54 = .ok (.iload_n 3, 1) := by decide +kernel
theorem dX12_of_55 : decode cX12_of 55 = .ok (.tableswitch 83 1 4 #[29, 36, 43, 63], 29) := by decide +kernel
theorem dX12_of_84 : decode cX12_of 84 = .ok (.aload_n 0, 1) := by decide +kernel
theorem dX12_of_85 : decode cX12_of 85 = .ok (.getfield 62, 3) := by decide +kernel
theorem dX12_of_88 : decode cX12_of 88 = .ok (.iload_n 2, 1) := by decide +kernel
theorem dX12_of_89 : decode cX12_of 89 = .ok (.iaload, 1) := by decide +kernel
theorem dX12_of_90 : decode cX12_of 90 = .ok (.ireturn, 1) := by decide +kernel
theorem dX12_of_91 : decode cX12_of 91 = .ok (.aload_n 0, 1) := by decide +kernel
theorem dX12_of_92 : decode cX12_of 92 = .ok (.getfield 53, 3) := by decide +kernel
theorem dX12_of_95 : decode cX12_of 95 = .ok (.iload_n 2, 1) := by decide +kernel
theorem dX12_of_96 : decode cX12_of 96 = .ok (.iaload, 1) := by decide +kernel
theorem dX12_of_97 : decode cX12_of 97 = .ok (.ireturn, 1) := by decide +kernel
theorem dX12_of_98 : decode cX12_of 98 = .ok (.aload_n 0, 1) := by decide +kernel
theorem dX12_of_99 : decode cX12_of 99 = .ok (.getfield 53, 3) := by decide +kernel
theorem dX12_of_102 : decode cX12_of 102 = .ok (.iload_n 2, 1) := by decide +kernel
theorem dX12_of_103 : decode cX12_of 103 = .ok (.iaload, 1) := by decide +kernel
theorem dX12_of_104 : decode cX12_of 104 = .ok (.ifCond .ne 7, 3) := by decide +kernel
theorem dX12_of_107 : decode cX12_of 107 = .ok (.iconst (-1), 1) := by decide +kernel
theorem dX12_of_108 : decode cX12_of 108 = .ok (.goto 9, 3) := by decide +kernel
theorem dX12_of_111 : decode cX12_of 111 = .ok (.aload_n 0, 1) := by decide +kernel
theorem dX12_of_112 : decode cX12_of 112 = .ok (.getfield 56, 3) := by decide +kernel
theorem dX12_of_115 : decode cX12_of 115 = .ok (.iload_n 2, 1) := by decide +kernel
theorem dX12_of_116 : decode cX12_of 116 = .ok (.iaload, 1) := by decide +kernel
theorem dX12_of_117 : decode cX12_of 117 = .ok (.ireturn, 1) := by decide +kernel
theorem dX12_of_118 : decode cX12_of 118 = .ok (.aload_n 0, 1) := by decide +kernel
theorem dX12_of_119 : decode cX12_of 119 = .ok (.getfield 53, 3) := by decide +kernel
theorem dX12_of_122 : decode cX12_of 122 = .ok (.iload_n 2, 1) := by decide +kernel
theorem dX12_of_123 : decode cX12_of 123 = .ok (.iaload, 1) := by decide +kernel
theorem dX12_of_124 : decode cX12_of 124 = .ok (.ifCond .ne 7, 3) := by decide +kernel
theorem dX12_of_127 : decode cX12_of 127 = .ok (.iconst (-1), 1) := by decide +kernel
theorem dX12_of_128 : decode cX12_of 128 = .ok (.goto 9, 3) := by decide +kernel
theorem dX12_of_131 : decode cX12_of 131 = .ok (.aload_n 0, 1) := by decide +kernel
theorem dX12_of_132 : decode cX12_of 132 = .ok (.getfield 59, 3) := by decide +kernel
theorem dX12_of_135 : decode cX12_of 135 = .ok (.iload_n 2, 1) := by decide +kernel
theorem dX12_of_136 : decode cX12_of 136 = .ok (.iaload, 1) := by decide +kernel
theorem dX12_of_137 : decode cX12_of 137 = .ok (.ireturn, 1) := by decide +kernel
theorem dX12_of_138 : decode cX12_of 138 = .ok (.aload_n 0, 1) := by decide +kernel
theorem dX12_of_139 : decode cX12_of 139 = .ok (.iload_n 1, 1) := by decide +kernel
theorem dX12_of_140 : decode cX12_of 140 = .ok (.iload_n 2, 1) := by decide +kernel
theorem dX12_of_141 : decode cX12_of 141 = .ok (.invokevirtual 262, 3) := by decide +kernel
theorem dX12_of_144 : decode cX12_of 144 = .ok (.ireturn, 1) := by decide +kernel
theorem dX12_box_0 : decode cX12_box 0 = .ok (.aload_n 0, 1) := by decide +kernel
theorem dX12_box_1 : decode cX12_box 1 = .ok (.iload_n 1, 1) := by decide +kernel
theorem dX12_box_2 : decode cX12_box 2 = .ok (.iload_n 2, 1) := by decide +kernel
theorem dX12_box_3 : decode cX12_box 3 = .ok (.invokevirtual 218, 3) := by decide +kernel
theorem dX12_box_6 : decode cX12_box 6 = .ok (.ifCond .eq 7, 3) := by decide +kernel
theorem dX12_box_9 : decode cX12_box 9 = .ok (.iload_n 3, 1) := by decide +kernel
theorem dX12_box_10 : decode cX12_box 10 = .ok (.ifCond .ge 5, 3) := by decide +kernel
theorem dX12_box_13 : decode cX12_box 13 = .ok (.iconst (-1), 1) := by decide +kernel
theorem dX12_box_14 : decode cX12_box 14 = .ok (.ireturn, 1) := by decide +kernel
theorem dX12_box_15 : decode cX12_box 15 = .ok (.aload_n 0, 1) := by decide +kernel
theorem dX12_box_16 : decode cX12_box 16 = .ok (.invokevirtual 256, 3) := by decide +kernel
theorem dX12_box_19 : decode cX12_box 19 = .ok (.aload_n 0, 1) := by decide +kernel
theorem dX12_box_20 : decode cX12_box 20 = .ok (.iload_n 1, 1) := by decide +kernel
theorem dX12_box_21 : decode cX12_box 21 = .ok (.aload_n 0, 1) := by decide +kernel
theorem dX12_box_22 : decode cX12_box 22 = .ok (.getfield 7, 3) := by decide +kernel
theorem dX12_box_25 : decode cX12_box 25 = .ok (.bipush 8, 2) := by decide +kernel
theorem dX12_box_27 : decode cX12_box 27 = .ok (.iload_n 1, 1) := by decide +kernel
theorem dX12_box_28 : decode cX12_box 28 = .ok (.iadd, 1) := by decide +kernel
theorem dX12_box_29 : decode cX12_box 29 = .ok (.iaload, 1) := by decide +kernel
theorem dX12_box_30 : decode cX12_box 30 = .ok (.invokevirtual 259, 3) := by decide +kernel
theorem dX12_box_33 : decode cX12_box 33 = .ok (.istore 5, 2) := by decide +kernel
theorem dX12_box_35 : decode cX12_box 35 = .ok (.iconst (-1), 1) := by decide +kernel
theorem dX12_box_36 : decode cX12_box 36 = .ok (.istore 6, 2) := by decide +kernel
theorem dX12_box_38 : decode cX12_box 38 = .ok (.iconst (-1), 1) := by decide +kernel
theorem dX12_box_39 : decode cX12_box 39 = .ok (.istore 7, 2) := by decide +kernel
theorem dX12_box_41 : decode cX12_box 41 = .ok (.iconst 0, 1) := by decide +kernel
theorem dX12_box_42 : decode cX12_box 42 = .ok (.istore 8, 2) := by decide +kernel
theorem dX12_box_44 : decode cX12_box 44 = .ok (.iload 8, 2) := by decide +kernel
theorem dX12_box_46 : decode cX12_box 46 = .ok (.sipush 1000, 3) := by decide +kernel
theorem dX12_box_49 : decode cX12_box 49 = .ok (.if_icmp .ge 71, 3) := by decide +kernel
theorem dX12_box_52 : decode cX12_box 52 = .ok (.aload_n 0, 1) := by decide +kernel
theorem dX12_box_53 : decode cX12_box 53 = .ok (.iload_n 2, 1) := by decide +kernel
theorem dX12_box_54 : decode cX12_box 54 = .ok (.iload 8, 2) := by decide +kernel
theorem dX12_box_56 : decode cX12_box 56 = .ok (.invokevirtual 240, 3) := by decide +kernel
theorem dX12_box_59 : decode cX12_box 59 = .ok (.ifCond .eq 55, 3) := by decide +kernel
theorem dX12_box_62 : decode cX12_box 62 = .ok (.iload 6, 2) := by decide +kernel
theorem dX12_box_64 : decode cX12_box 64 = .ok (.iload 8, 2) := by decide +kernel
theorem dX12_box_66 : decode cX12_box 66 = .ok (.ifCond .eq 15, 3) := by decide +kernel
theorem dX12_box_69 : decode cX12_box 69 = .ok (.aload_n 0, 1) := by decide +kernel
theorem dX12_box_70 : decode cX12_box 70 = .ok (.iload_n 2, 1) := by decide +kernel
theorem dX12_box_71 : decode cX12_box 71 = .ok (.iload 8, 2) := by decide +kernel
theorem dX12_box_73 : decode cX12_box 73 = .ok (.iconst 1, 1) := by decide +kernel
theorem dX12_box_74 : decode cX12_box 74 = .ok (.isub, 1) := by decide +kernel
theorem dX12_box_75 : decode cX12_box 75 = .ok (.invokevirtual 240, 3) := by decide +kernel
theorem dX12_box_78 : decode cX12_box 78 = .ok (.ifCond .ne 7, 3) := by decide +kernel
theorem dX12_box_81 : decode cX12_box 81 = .ok (.iconst 1, 1) := by decide +kernel
theorem dX12_box_82 : decode cX12_box 82 = .ok (.goto 4, 3) := by decide +kernel
theorem dX12_box_85 : decode cX12_box 85 = .ok (.iconst 0, 1) := by decide +kernel
theorem dX12_box_86 : decode cX12_box 86 = .ok (.iadd, 1) := by decide +kernel
theorem dX12_box_87 : decode cX12_box 87 = .ok (.istore 6, 2) := by decide +kernel
theorem dX12_box_89 : decode cX12_box 89 = .ok (.iload 6, 2) := by decide +kernel
theorem dX12_box_91 : decode cX12_box 91 = .ok (.iload_n 3, 1) := by decide +kernel
theorem dX12_box_92 : decode cX12_box 92 = .ok (.if_icmp .ne 18, 3) := by decide +kernel
theorem dX12_box_95 : decode cX12_box 95 = .ok (.iload 4, 2) := by decide +kernel
theorem dX12_box_97 : decode cX12_box 97 = .ok (.ifCond .ne 8, 3) := by decide +kernel
theorem dX12_box_100 : decode cX12_box 100 = .ok (.iload 7, 2) := by decide +kernel
theorem dX12_box_102 : decode cX12_box 102 = .ok (.ifCond .ge 8, 3) := by decide +kernel
theorem dX12_box_105 : decode cX12_box 105 = .ok (.iload 8, 2) := by decide +kernel
theorem dX12_box_107 : decode cX12_box 107 = .ok (.goto 5, 3) := by decide +kernel
theorem dX12_box_110 : decode cX12_box 110 = .ok (.iload 7, 2) := by decide +kernel
theorem dX12_box_112 : decode cX12_box 112 = .ok (.istore 7, 2) := by decide +kernel
theorem dX12_box_114 : decode cX12_box 114 = .ok (.iinc 8 1, 3) := by decide +kernel
theorem dX12_box_117 : decode cX12_box 117 = .ok (.goto (-73), 3) := by decide +kernel
theorem dX12_box_120 : decode cX12_box 120 = .ok (.iload 7, 2) := by decide +kernel
theorem dX12_box_122 : decode cX12_box 122 = .ok (.ireturn, 1) := by decide +kernel
theorem dX12_through_0 : decode cX12_through 0 = .ok (.aload_n 0, 1) := by decide +kernel
theorem dX12_through_1 : decode cX12_through 1 = .ok (.iload_n 1, 1) := by decide +kernel
theorem dX12_through_2 : decode cX12_through 2 = .ok (.iload_n 2, 1) := by decide +kernel
theorem dX12_through_3 : decode cX12_through 3 = .ok (.invokevirtual 218, 3) := by decide +kernel
theorem dX12_through_6 : decode cX12_through 6 = .ok (.ifCond .ne 7, 3) := by decide +kernel
theorem dX12_through_9 : decode cX12_through 9 = .ok (.ldc2_w 265, 3) := by decide +kernel
theorem dX12_through_12 : decode cX12_through 12 = .ok (.lreturn, 1) := by decide +kernel
theorem dX12_through_13 : decode cX12_through 13 = .ok (.aload_n 0, 1) := by decide +kernel
theorem dX12_through_14 : decode cX12_through 14 = .ok (.invokevirtual 256, 3) := by decide +kernel
theorem dX12_through_17 : decode cX12_through 17 = .ok (.aload_n 0, 1) := by decide +kernel
theorem dX12_through_18 : decode cX12_through 18 = .ok (.iload_n 1, 1) := by decide +kernel
theorem dX12_through_19 : decode cX12_through 19 = .ok (.aload_n 0, 1) := by decide +kernel
theorem dX12_through_20 : decode cX12_through 20 = .ok (.getfield 7, 3) := by decide +kernel
theorem dX12_through_23 : decode cX12_through 23 = .ok (.bipush 8, 2) := by decide +kernel
theorem dX12_through_25 : decode cX12_through 25 = .ok (.iload_n 1, 1) := by decide +kernel
theorem dX12_through_26 : decode cX12_through 26 = .ok (.iadd, 1) := by decide +kernel
theorem dX12_through_27 : decode cX12_through 27 = .ok (.iaload, 1) := by decide +kernel
theorem dX12_through_28 : decode cX12_through 28 = .ok (.invokevirtual 259, 3) := by decide +kernel
theorem dX12_through_31 : decode cX12_through 31 = .ok (.istore 4, 2) := by decide +kernel
theorem dX12_through_33 : decode cX12_through 33 = .ok (.aload_n 0, 1) := by decide +kernel
theorem dX12_through_34 : decode cX12_through 34 = .ok (.iload_n 1, 1) := by decide +kernel
theorem dX12_through_35 : decode cX12_through 35 = .ok (.iload_n 2, 1) := by decide +kernel
theorem dX12_through_36 : decode cX12_through 36 = .ok (.iload_n 3, 1) := by decide +kernel
theorem dX12_through_37 : decode cX12_through 37 = .ok (.invokevirtual 250, 3) := by decide +kernel
theorem dX12_through_40 : decode cX12_through 40 = .ok (.lreturn, 1) := by decide +kernel
theorem dX12_settled_0 : decode cX12_settled 0 = .ok (.iload_n 1, 1) := by decide +kernel
theorem dX12_settled_1 : decode cX12_settled 1 = .ok (.invokestatic 82, 3) := by decide +kernel
theorem dX12_settled_4 : decode cX12_settled 4 = .ok (.ifCond .ne 5, 3) := by decide +kernel
theorem dX12_settled_7 : decode cX12_settled 7 = .ok (.iconst (-1), 1) := by decide +kernel
theorem dX12_settled_8 : decode cX12_settled 8 = .ok (.ireturn, 1) := by decide +kernel
theorem dX12_settled_9 : decode cX12_settled 9 = .ok (.aload_n 0, 1) := by decide +kernel
theorem dX12_settled_10 : decode cX12_settled 10 = .ok (.invokevirtual 256, 3) := by decide +kernel
theorem dX12_settled_13 : decode cX12_settled 13 = .ok (.aload_n 0, 1) := by decide +kernel
theorem dX12_settled_14 : decode cX12_settled 14 = .ok (.iload_n 1, 1) := by decide +kernel
theorem dX12_settled_15 : decode cX12_settled 15 = .ok (.aload_n 0, 1) := by decide +kernel
theorem dX12_settled_16 : decode cX12_settled 16 = .ok (.getfield 7, 3) := by decide +kernel
theorem dX12_settled_19 : decode cX12_settled 19 = .ok (.bipush 8, 2) := by decide +kernel
theorem dX12_settled_21 : decode cX12_settled 21 = .ok (.iload_n 1, 1) := by decide +kernel
theorem dX12_settled_22 : decode cX12_settled 22 = .ok (.iadd, 1) := by decide +kernel
theorem dX12_settled_23 : decode cX12_settled 23 = .ok (.iaload, 1) := by decide +kernel
theorem dX12_settled_24 : decode cX12_settled 24 = .ok (.invokevirtual 259, 3) := by decide +kernel
theorem dX12_settled_27 : decode cX12_settled 27 = .ok (.ifCond .ne 5, 3) := by decide +kernel
theorem dX12_settled_30 : decode cX12_settled 30 = .ok (.iconst 0, 1) := by decide +kernel
theorem dX12_settled_31 : decode cX12_settled 31 = .ok (.ireturn, 1) := by decide +kernel
theorem dX12_settled_32 : decode cX12_settled 32 = .ok (.iconst 1, 1) := by decide +kernel
theorem dX12_settled_33 : decode cX12_settled 33 = .ok (.istore_n 2, 1) := by decide +kernel
theorem dX12_settled_34 : decode cX12_settled 34 = .ok (.iconst 0, 1) := by decide +kernel
theorem dX12_settled_35 : decode cX12_settled 35 = .ok (.istore_n 3, 1) := by decide +kernel
theorem dX12_settled_36 : decode cX12_settled 36 = .ok (.iload_n 3, 1) := by decide +kernel
theorem dX12_settled_37 : decode cX12_settled 37 = .ok (.aload_n 0, 1) := by decide +kernel
theorem dX12_settled_38 : decode cX12_settled 38 = .ok (.getfield 7, 3) := by decide +kernel
theorem dX12_settled_41 : decode cX12_settled 41 = .ok (.iconst 2, 1) := by decide +kernel
theorem dX12_settled_42 : decode cX12_settled 42 = .ok (.iload_n 1, 1) := by decide +kernel
theorem dX12_settled_43 : decode cX12_settled 43 = .ok (.iadd, 1) := by decide +kernel
theorem dX12_settled_44 : decode cX12_settled 44 = .ok (.iaload, 1) := by decide +kernel
theorem dX12_settled_45 : decode cX12_settled 45 = .ok (.if_icmp .ge 29, 3) := by decide +kernel
theorem dX12_settled_48 : decode cX12_settled 48 = .ok (.iload_n 2, 1) := by decide +kernel
theorem dX12_settled_49 : decode cX12_settled 49 = .ok (.ifCond .eq 17, 3) := by decide +kernel
theorem dX12_settled_52 : decode cX12_settled 52 = .ok (.aload_n 0, 1) := by decide +kernel
theorem dX12_settled_53 : decode cX12_settled 53 = .ok (.getfield 53, 3) := by decide +kernel
theorem dX12_settled_56 : decode cX12_settled 56 = .ok (.iload_n 3, 1) := by decide +kernel
theorem dX12_settled_57 : decode cX12_settled 57 = .ok (.iaload, 1) := by decide +kernel
theorem dX12_settled_58 : decode cX12_settled 58 = .ok (.iconst 1, 1) := by decide +kernel
theorem dX12_settled_59 : decode cX12_settled 59 = .ok (.if_icmp .ne 7, 3) := by decide +kernel
theorem dX12_settled_62 : decode cX12_settled 62 = .ok (.iconst 1, 1) := by decide +kernel
theorem dX12_settled_63 : decode cX12_settled 63 = .ok (.goto 4, 3) := by decide +kernel
theorem dX12_settled_66 : decode cX12_settled 66 = .ok (.iconst 0, 1) := by decide +kernel
theorem dX12_settled_67 : decode cX12_settled 67 = .ok (.istore_n 2, 1) := by decide +kernel
theorem dX12_settled_68 : decode cX12_settled 68 = .ok (.iinc 3 1, 3) := by decide +kernel
theorem dX12_settled_71 : decode cX12_settled 71 = .ok (.goto (-35), 3) := by decide +kernel
theorem dX12_settled_74 : decode cX12_settled 74 = .ok (.iload_n 2, 1) := by decide +kernel
theorem dX12_settled_75 : decode cX12_settled 75 = .ok (.ifCond .eq 7, 3) := by decide +kernel
theorem dX12_settled_78 : decode cX12_settled 78 = .ok (.iconst 2, 1) := by decide +kernel
theorem dX12_settled_79 : decode cX12_settled 79 = .ok (.goto 4, 3) := by decide +kernel
theorem dX12_settled_82 : decode cX12_settled 82 = .ok (.iconst 1, 1) := by decide +kernel
theorem dX12_settled_83 : decode cX12_settled 83 = .ok (.ireturn, 1) := by decide +kernel
theorem dX12_tells_0 : decode cX12_tells 0 = .ok (.aload_n 0, 1) := by decide +kernel
theorem dX12_tells_1 : decode cX12_tells 1 = .ok (.getfield 7, 3) := by decide +kernel
theorem dX12_tells_4 : decode cX12_tells 4 = .ok (.iconst 5, 1) := by decide +kernel
theorem dX12_tells_5 : decode cX12_tells 5 = .ok (.iaload, 1) := by decide +kernel
theorem dX12_tells_6 : decode cX12_tells 6 = .ok (.sipush 200, 3) := by decide +kernel
theorem dX12_tells_9 : decode cX12_tells 9 = .ok (.if_icmp .ne 4, 3) := by decide +kernel
theorem dX12_tells_12 : decode cX12_tells 12 = .ok (.return_, 1) := by decide +kernel
theorem dX12_tells_13 : decode cX12_tells 13 = .ok (.sipush 400, 3) := by decide +kernel
theorem dX12_tells_16 : decode cX12_tells 16 = .ok (.iconst 5, 1) := by decide +kernel
theorem dX12_tells_17 : decode cX12_tells 17 = .ok (.aload_n 0, 1) := by decide +kernel
theorem dX12_tells_18 : decode cX12_tells 18 = .ok (.getfield 7, 3) := by decide +kernel
theorem dX12_tells_21 : decode cX12_tells 21 = .ok (.iconst 5, 1) := by decide +kernel
theorem dX12_tells_22 : decode cX12_tells 22 = .ok (.iaload, 1) := by decide +kernel
theorem dX12_tells_23 : decode cX12_tells 23 = .ok (.imul, 1) := by decide +kernel
theorem dX12_tells_24 : decode cX12_tells 24 = .ok (.iadd, 1) := by decide +kernel
theorem dX12_tells_25 : decode cX12_tells 25 = .ok (.istore 5, 2) := by decide +kernel
theorem dX12_tells_27 : decode cX12_tells 27 = .ok (.aload_n 0, 1) := by decide +kernel
theorem dX12_tells_28 : decode cX12_tells 28 = .ok (.getfield 7, 3) := by decide +kernel
theorem dX12_tells_31 : decode cX12_tells 31 = .ok (.iload 5, 2) := by decide +kernel
theorem dX12_tells_33 : decode cX12_tells 33 = .ok (.aload_n 0, 1) := by decide +kernel
theorem dX12_tells_34 : decode cX12_tells 34 = .ok (.getfield 7, 3) := by decide +kernel
theorem dX12_tells_37 : decode cX12_tells 37 = .ok (.iconst 4, 1) := by decide +kernel
theorem dX12_tells_38 : decode cX12_tells 38 = .ok (.iaload, 1) := by decide +kernel
theorem dX12_tells_39 : decode cX12_tells 39 = .ok (.iastore, 1) := by decide +kernel
theorem dX12_tells_40 : decode cX12_tells 40 = .ok (.aload_n 0, 1) := by decide +kernel
theorem dX12_tells_41 : decode cX12_tells 41 = .ok (.getfield 7, 3) := by decide +kernel
theorem dX12_tells_44 : decode cX12_tells 44 = .ok (.iload 5, 2) := by decide +kernel
theorem dX12_tells_46 : decode cX12_tells 46 = .ok (.iconst 1, 1) := by decide +kernel
theorem dX12_tells_47 : decode cX12_tells 47 = .ok (.iadd, 1) := by decide +kernel
theorem dX12_tells_48 : decode cX12_tells 48 = .ok (.iload_n 1, 1) := by decide +kernel
theorem dX12_tells_49 : decode cX12_tells 49 = .ok (.iastore, 1) := by decide +kernel
theorem dX12_tells_50 : decode cX12_tells 50 = .ok (.aload_n 0, 1) := by decide +kernel
theorem dX12_tells_51 : decode cX12_tells 51 = .ok (.getfield 7, 3) := by decide +kernel
theorem dX12_tells_54 : decode cX12_tells 54 = .ok (.iload 5, 2) := by decide +kernel
theorem dX12_tells_56 : decode cX12_tells 56 = .ok (.iconst 2, 1) := by decide +kernel
theorem dX12_tells_57 : decode cX12_tells 57 = .ok (.iadd, 1) := by decide +kernel
theorem dX12_tells_58 : decode cX12_tells 58 = .ok (.iload_n 2, 1) := by decide +kernel
theorem dX12_tells_59 : decode cX12_tells 59 = .ok (.iastore, 1) := by decide +kernel
theorem dX12_tells_60 : decode cX12_tells 60 = .ok (.aload_n 0, 1) := by decide +kernel
theorem dX12_tells_61 : decode cX12_tells 61 = .ok (.getfield 7, 3) := by decide +kernel
theorem dX12_tells_64 : decode cX12_tells 64 = .ok (.iload 5, 2) := by decide +kernel
theorem dX12_tells_66 : decode cX12_tells 66 = .ok (.iconst 3, 1) := by decide +kernel
theorem dX12_tells_67 : decode cX12_tells 67 = .ok (.iadd, 1) := by decide +kernel
theorem dX12_tells_68 : decode cX12_tells 68 = .ok (.iload_n 3, 1) := by decide +kernel
theorem dX12_tells_69 : decode cX12_tells 69 = .ok (.iastore, 1) := by decide +kernel
theorem dX12_tells_70 : decode cX12_tells 70 = .ok (.aload_n 0, 1) := by decide +kernel
theorem dX12_tells_71 : decode cX12_tells 71 = .ok (.getfield 7, 3) := by decide +kernel
theorem dX12_tells_74 : decode cX12_tells 74 = .ok (.iload 5, 2) := by decide +kernel
theorem dX12_tells_76 : decode cX12_tells 76 = .ok (.iconst 4, 1) := by decide +kernel
theorem dX12_tells_77 : decode cX12_tells 77 = .ok (.iadd, 1) := by decide +kernel
theorem dX12_tells_78 : decode cX12_tells 78 = .ok (.iload 4, 2) := by decide +kernel
theorem dX12_tells_80 : decode cX12_tells 80 = .ok (.iastore, 1) := by decide +kernel
theorem dX12_tells_81 : decode cX12_tells 81 = .ok (.aload_n 0, 1) := by decide +kernel
theorem dX12_tells_82 : decode cX12_tells 82 = .ok (.getfield 7, 3) := by decide +kernel
theorem dX12_tells_85 : decode cX12_tells 85 = .ok (.iconst 5, 1) := by decide +kernel
theorem dX12_tells_86 : decode cX12_tells 86 = .ok (.dup2, 1) := by decide +kernel
theorem dX12_tells_87 : decode cX12_tells 87 = .ok (.iaload, 1) := by decide +kernel
theorem dX12_tells_88 : decode cX12_tells 88 = .ok (.iconst 1, 1) := by decide +kernel
theorem dX12_tells_89 : decode cX12_tells 89 = .ok (.iadd, 1) := by decide +kernel
theorem dX12_tells_90 : decode cX12_tells 90 = .ok (.iastore, 1) := by decide +kernel
theorem dX12_tells_91 : decode cX12_tells 91 = .ok (.return_, 1) := by decide +kernel
theorem dX12_burns_0 : decode cX12_burns 0 = .ok (.aload_n 0, 1) := by decide +kernel
theorem dX12_burns_1 : decode cX12_burns 1 = .ok (.iload_n 3, 1) := by decide +kernel
theorem dX12_burns_2 : decode cX12_burns 2 = .ok (.iconst 0, 1) := by decide +kernel
theorem dX12_burns_3 : decode cX12_burns 3 = .ok (.invokevirtual 205, 3) := by decide +kernel
theorem dX12_burns_6 : decode cX12_burns 6 = .ok (.istore 4, 2) := by decide +kernel
theorem dX12_burns_8 : decode cX12_burns 8 = .ok (.aload_n 0, 1) := by decide +kernel
theorem dX12_burns_9 : decode cX12_burns 9 = .ok (.iload_n 3, 1) := by decide +kernel
theorem dX12_burns_10 : decode cX12_burns 10 = .ok (.iconst 1, 1) := by decide +kernel
theorem dX12_burns_11 : decode cX12_burns 11 = .ok (.invokevirtual 205, 3) := by decide +kernel
theorem dX12_burns_14 : decode cX12_burns 14 = .ok (.istore 5, 2) := by decide +kernel
theorem dX12_burns_16 : decode cX12_burns 16 = .ok (.aload_n 0, 1) := by decide +kernel
theorem dX12_burns_17 : decode cX12_burns 17 = .ok (.iload_n 3, 1) := by decide +kernel
theorem dX12_burns_18 : decode cX12_burns 18 = .ok (.iconst 2, 1) := by decide +kernel
theorem dX12_burns_19 : decode cX12_burns 19 = .ok (.invokevirtual 205, 3) := by decide +kernel
theorem dX12_burns_22 : decode cX12_burns 22 = .ok (.istore 6, 2) := by decide +kernel
theorem dX12_burns_24 : decode cX12_burns 24 = .ok (.aload_n 0, 1) := by decide +kernel
theorem dX12_burns_25 : decode cX12_burns 25 = .ok (.iload_n 3, 1) := by decide +kernel
theorem dX12_burns_26 : decode cX12_burns 26 = .ok (.iconst 3, 1) := by decide +kernel
theorem dX12_burns_27 : decode cX12_burns 27 = .ok (.invokevirtual 205, 3) := by decide +kernel
theorem dX12_burns_30 : decode cX12_burns 30 = .ok (.istore 7, 2) := by decide +kernel
theorem dX12_burns_32 : decode cX12_burns 32 = .ok (.aload_n 0, 1) := by decide +kernel
theorem dX12_burns_33 : decode cX12_burns 33 = .ok (.iload_n 1, 1) := by decide +kernel
theorem dX12_burns_34 : decode cX12_burns 34 = .ok (.iload_n 2, 1) := by decide +kernel
theorem dX12_burns_35 : decode cX12_burns 35 = .ok (.iload 4, 2) := by decide +kernel
theorem dX12_burns_37 : decode cX12_burns 37 = .ok (.invokevirtual 228, 3) := by decide +kernel
theorem dX12_burns_40 : decode cX12_burns 40 = .ok (.iload 5, 2) := by decide +kernel
theorem dX12_burns_42 : decode cX12_burns 42 = .ok (.idiv, 1) := by decide +kernel
theorem dX12_burns_43 : decode cX12_burns 43 = .ok (.istore 8, 2) := by decide +kernel
theorem dX12_burns_45 : decode cX12_burns 45 = .ok (.aload_n 0, 1) := by decide +kernel
theorem dX12_burns_46 : decode cX12_burns 46 = .ok (.getfield 47, 3) := by decide +kernel
theorem dX12_burns_49 : decode cX12_burns 49 = .ok (.sipush 1000, 3) := by decide +kernel
theorem dX12_burns_52 : decode cX12_burns 52 = .ok (.iconst 2, 1) := by decide +kernel
theorem dX12_burns_53 : decode cX12_burns 53 = .ok (.iload_n 3, 1) := by decide +kernel
theorem dX12_burns_54 : decode cX12_burns 54 = .ok (.iadd, 1) := by decide +kernel
theorem dX12_burns_55 : decode cX12_burns 55 = .ok (.imul, 1) := by decide +kernel
theorem dX12_burns_56 : decode cX12_burns 56 = .ok (.aload_n 0, 1) := by decide +kernel
theorem dX12_burns_57 : decode cX12_burns 57 = .ok (.getfield 56, 3) := by decide +kernel
theorem dX12_burns_60 : decode cX12_burns 60 = .ok (.iload_n 2, 1) := by decide +kernel
theorem dX12_burns_61 : decode cX12_burns 61 = .ok (.iaload, 1) := by decide +kernel
theorem dX12_burns_62 : decode cX12_burns 62 = .ok (.iadd, 1) := by decide +kernel
theorem dX12_burns_63 : decode cX12_burns 63 = .ok (.iaload, 1) := by decide +kernel
theorem dX12_burns_64 : decode cX12_burns 64 = .ok (.istore 9, 2) := by decide +kernel
theorem dX12_burns_66 : decode cX12_burns 66 = .ok (.ldc_w 267, 3) := by decide +kernel
theorem dX12_burns_69 : decode cX12_burns 69 = .ok (.aload_n 0, 1) := by decide +kernel
theorem dX12_burns_70 : decode cX12_burns 70 = .ok (.iload_n 1, 1) := by decide +kernel
theorem dX12_burns_71 : decode cX12_burns 71 = .ok (.iload_n 2, 1) := by decide +kernel
theorem dX12_burns_72 : decode cX12_burns 72 = .ok (.iload 6, 2) := by decide +kernel
theorem dX12_burns_74 : decode cX12_burns 74 = .ok (.invokevirtual 228, 3) := by decide +kernel
theorem dX12_burns_77 : decode cX12_burns 77 = .ok (.isub, 1) := by decide +kernel
theorem dX12_burns_78 : decode cX12_burns 78 = .ok (.iload 7, 2) := by decide +kernel
theorem dX12_burns_80 : decode cX12_burns 80 = .ok (.idiv, 1) := by decide +kernel
theorem dX12_burns_81 : decode cX12_burns 81 = .ok (.istore 10, 2) := by decide +kernel
theorem dX12_burns_83 : decode cX12_burns 83 = .ok (.iload 9, 2) := by decide +kernel
theorem dX12_burns_85 : decode cX12_burns 85 = .ok (.iload 8, 2) := by decide +kernel
theorem dX12_burns_87 : decode cX12_burns 87 = .ok (.if_icmp .ge 8, 3) := by decide +kernel
theorem dX12_burns_90 : decode cX12_burns 90 = .ok (.iload 9, 2) := by decide +kernel
theorem dX12_burns_92 : decode cX12_burns 92 = .ok (.goto 5, 3) := by decide +kernel
theorem dX12_burns_95 : decode cX12_burns 95 = .ok (.iload 8, 2) := by decide +kernel
theorem dX12_burns_97 : decode cX12_burns 97 = .ok (.istore 8, 2) := by decide +kernel
theorem dX12_burns_99 : decode cX12_burns 99 = .ok (.iload 10, 2) := by decide +kernel
theorem dX12_burns_101 : decode cX12_burns 101 = .ok (.iload 8, 2) := by decide +kernel
theorem dX12_burns_103 : decode cX12_burns 103 = .ok (.if_icmp .ge 8, 3) := by decide +kernel
theorem dX12_burns_106 : decode cX12_burns 106 = .ok (.iload 10, 2) := by decide +kernel
theorem dX12_burns_108 : decode cX12_burns 108 = .ok (.goto 5, 3) := by decide +kernel
theorem dX12_burns_111 : decode cX12_burns 111 = .ok (.iload 8, 2) := by decide +kernel
theorem dX12_burns_113 : decode cX12_burns 113 = .ok (.istore 8, 2) := by decide +kernel
theorem dX12_burns_115 : decode cX12_burns 115 = .ok (.aload_n 0, 1) := by decide +kernel
theorem dX12_burns_116 : decode cX12_burns 116 = .ok (.iload_n 1, 1) := by decide +kernel
theorem dX12_burns_117 : decode cX12_burns 117 = .ok (.iload_n 2, 1) := by decide +kernel
theorem dX12_burns_118 : decode cX12_burns 118 = .ok (.iload 4, 2) := by decide +kernel
theorem dX12_burns_120 : decode cX12_burns 120 = .ok (.aload_n 0, 1) := by decide +kernel
theorem dX12_burns_121 : decode cX12_burns 121 = .ok (.iload_n 1, 1) := by decide +kernel
theorem dX12_burns_122 : decode cX12_burns 122 = .ok (.iload_n 2, 1) := by decide +kernel
theorem dX12_burns_123 : decode cX12_burns 123 = .ok (.iload 4, 2) := by decide +kernel
theorem dX12_burns_125 : decode cX12_burns 125 = .ok (.invokevirtual 228, 3) := by decide +kernel
theorem dX12_burns_128 : decode cX12_burns 128 = .ok (.iload 8, 2) := by decide +kernel
theorem dX12_burns_130 : decode cX12_burns 130 = .ok (.iload 5, 2) := by decide +kernel
theorem dX12_burns_132 : decode cX12_burns 132 = .ok (.imul, 1) := by decide +kernel
theorem dX12_burns_133 : decode cX12_burns 133 = .ok (.isub, 1) := by decide +kernel
theorem dX12_burns_134 : decode cX12_burns 134 = .ok (.invokevirtual 224, 3) := by decide +kernel
theorem dX12_burns_137 : decode cX12_burns 137 = .ok (.aload_n 0, 1) := by decide +kernel
theorem dX12_burns_138 : decode cX12_burns 138 = .ok (.iload_n 1, 1) := by decide +kernel
theorem dX12_burns_139 : decode cX12_burns 139 = .ok (.iload_n 2, 1) := by decide +kernel
theorem dX12_burns_140 : decode cX12_burns 140 = .ok (.iload 6, 2) := by decide +kernel
theorem dX12_burns_142 : decode cX12_burns 142 = .ok (.aload_n 0, 1) := by decide +kernel
theorem dX12_burns_143 : decode cX12_burns 143 = .ok (.iload_n 1, 1) := by decide +kernel
theorem dX12_burns_144 : decode cX12_burns 144 = .ok (.iload_n 2, 1) := by decide +kernel
theorem dX12_burns_145 : decode cX12_burns 145 = .ok (.iload 6, 2) := by decide +kernel
theorem dX12_burns_147 : decode cX12_burns 147 = .ok (.invokevirtual 228, 3) := by decide +kernel
theorem dX12_burns_150 : decode cX12_burns 150 = .ok (.iload 8, 2) := by decide +kernel
theorem dX12_burns_152 : decode cX12_burns 152 = .ok (.iload 7, 2) := by decide +kernel
theorem dX12_burns_154 : decode cX12_burns 154 = .ok (.imul, 1) := by decide +kernel
theorem dX12_burns_155 : decode cX12_burns 155 = .ok (.iadd, 1) := by decide +kernel
theorem dX12_burns_156 : decode cX12_burns 156 = .ok (.invokevirtual 224, 3) := by decide +kernel
theorem dX12_burns_159 : decode cX12_burns 159 = .ok (.aload_n 0, 1) := by decide +kernel
theorem dX12_burns_160 : decode cX12_burns 160 = .ok (.getfield 16, 3) := by decide +kernel
theorem dX12_burns_163 : decode cX12_burns 163 = .ok (.bipush 80, 2) := by decide +kernel
theorem dX12_burns_165 : decode cX12_burns 165 = .ok (.iload_n 1, 1) := by decide +kernel
theorem dX12_burns_166 : decode cX12_burns 166 = .ok (.imul, 1) := by decide +kernel
theorem dX12_burns_167 : decode cX12_burns 167 = .ok (.iconst 5, 1) := by decide +kernel
theorem dX12_burns_168 : decode cX12_burns 168 = .ok (.iload_n 2, 1) := by decide +kernel
theorem dX12_burns_169 : decode cX12_burns 169 = .ok (.imul, 1) := by decide +kernel
theorem dX12_burns_170 : decode cX12_burns 170 = .ok (.iadd, 1) := by decide +kernel
theorem dX12_burns_171 : decode cX12_burns 171 = .ok (.iload_n 3, 1) := by decide +kernel
theorem dX12_burns_172 : decode cX12_burns 172 = .ok (.iadd, 1) := by decide +kernel
theorem dX12_burns_173 : decode cX12_burns 173 = .ok (.dup2, 1) := by decide +kernel
theorem dX12_burns_174 : decode cX12_burns 174 = .ok (.laload, 1) := by decide +kernel
theorem dX12_burns_175 : decode cX12_burns 175 = .ok (.iload 8, 2) := by decide +kernel
theorem dX12_burns_177 : decode cX12_burns 177 = .ok (.i2l, 1) := by decide +kernel
theorem dX12_burns_178 : decode cX12_burns 178 = .ok (.aload_n 0, 1) := by decide +kernel
theorem dX12_burns_179 : decode cX12_burns 179 = .ok (.iload_n 3, 1) := by decide +kernel
theorem dX12_burns_180 : decode cX12_burns 180 = .ok (.iconst 4, 1) := by decide +kernel
theorem dX12_burns_181 : decode cX12_burns 181 = .ok (.invokevirtual 205, 3) := by decide +kernel
theorem dX12_burns_184 : decode cX12_burns 184 = .ok (.i2l, 1) := by decide +kernel
theorem dX12_burns_185 : decode cX12_burns 185 = .ok (.lmul, 1) := by decide +kernel
theorem dX12_burns_186 : decode cX12_burns 186 = .ok (.ladd, 1) := by decide +kernel
theorem dX12_burns_187 : decode cX12_burns 187 = .ok (.lastore, 1) := by decide +kernel
theorem dX12_burns_188 : decode cX12_burns 188 = .ok (.aload_n 0, 1) := by decide +kernel
theorem dX12_burns_189 : decode cX12_burns 189 = .ok (.getfield 71, 3) := by decide +kernel
theorem dX12_burns_192 : decode cX12_burns 192 = .ok (.iload_n 3, 1) := by decide +kernel
theorem dX12_burns_193 : decode cX12_burns 193 = .ok (.iload 8, 2) := by decide +kernel
theorem dX12_burns_195 : decode cX12_burns 195 = .ok (.ifCond .le 16, 3) := by decide +kernel
theorem dX12_burns_198 : decode cX12_burns 198 = .ok (.aload_n 0, 1) := by decide +kernel
theorem dX12_burns_199 : decode cX12_burns 199 = .ok (.iload_n 3, 1) := by decide +kernel
theorem dX12_burns_200 : decode cX12_burns 200 = .ok (.iconst 4, 1) := by decide +kernel
theorem dX12_burns_201 : decode cX12_burns 201 = .ok (.invokevirtual 205, 3) := by decide +kernel
theorem dX12_burns_204 : decode cX12_burns 204 = .ok (.ifCond .le 7, 3) := by decide +kernel
theorem dX12_burns_207 : decode cX12_burns 207 = .ok (.iconst 1, 1) := by decide +kernel
theorem dX12_burns_208 : decode cX12_burns 208 = .ok (.goto 4, 3) := by decide +kernel
theorem dX12_burns_211 : decode cX12_burns 211 = .ok (.iconst 0, 1) := by decide +kernel
theorem dX12_burns_212 : decode cX12_burns 212 = .ok (.bastore, 1) := by decide +kernel
theorem dX12_burns_213 : decode cX12_burns 213 = .ok (.return_, 1) := by decide +kernel
theorem dX12_looksAt_0 : decode cX12_looksAt 0 = .ok (.sipush 220, 3) := by decide +kernel
theorem dX12_looksAt_3 : decode cX12_looksAt 3 = .ok (.bipush 80, 2) := by decide +kernel
theorem dX12_looksAt_5 : decode cX12_looksAt 5 = .ok (.iload_n 1, 1) := by decide +kernel
theorem dX12_looksAt_6 : decode cX12_looksAt 6 = .ok (.imul, 1) := by decide +kernel
theorem dX12_looksAt_7 : decode cX12_looksAt 7 = .ok (.iadd, 1) := by decide +kernel
theorem dX12_looksAt_8 : decode cX12_looksAt 8 = .ok (.iconst 5, 1) := by decide +kernel
theorem dX12_looksAt_9 : decode cX12_looksAt 9 = .ok (.iload_n 2, 1) := by decide +kernel
theorem dX12_looksAt_10 : decode cX12_looksAt 10 = .ok (.imul, 1) := by decide +kernel
theorem dX12_looksAt_11 : decode cX12_looksAt 11 = .ok (.iadd, 1) := by decide +kernel
theorem dX12_looksAt_12 : decode cX12_looksAt 12 = .ok (.iload_n 3, 1) := by decide +kernel
theorem dX12_looksAt_13 : decode cX12_looksAt 13 = .ok (.iadd, 1) := by decide +kernel
theorem dX12_looksAt_14 : decode cX12_looksAt 14 = .ok (.istore 4, 2) := by decide +kernel
theorem dX12_looksAt_16 : decode cX12_looksAt 16 = .ok (.aload_n 0, 1) := by decide +kernel
theorem dX12_looksAt_17 : decode cX12_looksAt 17 = .ok (.iload_n 3, 1) := by decide +kernel
theorem dX12_looksAt_18 : decode cX12_looksAt 18 = .ok (.invokevirtual 202, 3) := by decide +kernel
theorem dX12_looksAt_21 : decode cX12_looksAt 21 = .ok (.ifCond .eq 16, 3) := by decide +kernel
theorem dX12_looksAt_24 : decode cX12_looksAt 24 = .ok (.aload_n 0, 1) := by decide +kernel
theorem dX12_looksAt_25 : decode cX12_looksAt 25 = .ok (.getfield 71, 3) := by decide +kernel
theorem dX12_looksAt_28 : decode cX12_looksAt 28 = .ok (.iload_n 3, 1) := by decide +kernel
theorem dX12_looksAt_29 : decode cX12_looksAt 29 = .ok (.baload, 1) := by decide +kernel
theorem dX12_looksAt_30 : decode cX12_looksAt 30 = .ok (.ifCond .eq 7, 3) := by decide +kernel
theorem dX12_looksAt_33 : decode cX12_looksAt 33 = .ok (.iconst 1, 1) := by decide +kernel
theorem dX12_looksAt_34 : decode cX12_looksAt 34 = .ok (.goto 4, 3) := by decide +kernel
theorem dX12_looksAt_37 : decode cX12_looksAt 37 = .ok (.iconst 0, 1) := by decide +kernel
theorem dX12_looksAt_38 : decode cX12_looksAt 38 = .ok (.istore 5, 2) := by decide +kernel
theorem dX12_looksAt_40 : decode cX12_looksAt 40 = .ok (.aload_n 0, 1) := by decide +kernel
theorem dX12_looksAt_41 : decode cX12_looksAt 41 = .ok (.iload_n 3, 1) := by decide +kernel
theorem dX12_looksAt_42 : decode cX12_looksAt 42 = .ok (.invokevirtual 202, 3) := by decide +kernel
theorem dX12_looksAt_45 : decode cX12_looksAt 45 = .ok (.ifCond .eq 52, 3) := by decide +kernel
theorem dX12_looksAt_48 : decode cX12_looksAt 48 = .ok (.aload_n 0, 1) := by decide +kernel
theorem dX12_looksAt_49 : decode cX12_looksAt 49 = .ok (.iload_n 1, 1) := by decide +kernel
theorem dX12_looksAt_50 : decode cX12_looksAt 50 = .ok (.iload_n 2, 1) := by decide +kernel
theorem dX12_looksAt_51 : decode cX12_looksAt 51 = .ok (.aload_n 0, 1) := by decide +kernel
theorem dX12_looksAt_52 : decode cX12_looksAt 52 = .ok (.iload_n 3, 1) := by decide +kernel
theorem dX12_looksAt_53 : decode cX12_looksAt 53 = .ok (.iconst 0, 1) := by decide +kernel
theorem dX12_looksAt_54 : decode cX12_looksAt 54 = .ok (.invokevirtual 205, 3) := by decide +kernel
theorem dX12_looksAt_57 : decode cX12_looksAt 57 = .ok (.invokevirtual 228, 3) := by decide +kernel
theorem dX12_looksAt_60 : decode cX12_looksAt 60 = .ok (.aload_n 0, 1) := by decide +kernel
theorem dX12_looksAt_61 : decode cX12_looksAt 61 = .ok (.iload_n 3, 1) := by decide +kernel
theorem dX12_looksAt_62 : decode cX12_looksAt 62 = .ok (.iconst 1, 1) := by decide +kernel
theorem dX12_looksAt_63 : decode cX12_looksAt 63 = .ok (.invokevirtual 205, 3) := by decide +kernel
theorem dX12_looksAt_66 : decode cX12_looksAt 66 = .ok (.if_icmp .ge 31, 3) := by decide +kernel
theorem dX12_looksAt_69 : decode cX12_looksAt 69 = .ok (.aload_n 0, 1) := by decide +kernel
theorem dX12_looksAt_70 : decode cX12_looksAt 70 = .ok (.getfield 68, 3) := by decide +kernel
theorem dX12_looksAt_73 : decode cX12_looksAt 73 = .ok (.aload_n 0, 1) := by decide +kernel
theorem dX12_looksAt_74 : decode cX12_looksAt 74 = .ok (.iload_n 3, 1) := by decide +kernel
theorem dX12_looksAt_75 : decode cX12_looksAt 75 = .ok (.iconst 0, 1) := by decide +kernel
theorem dX12_looksAt_76 : decode cX12_looksAt 76 = .ok (.invokevirtual 205, 3) := by decide +kernel
theorem dX12_looksAt_79 : decode cX12_looksAt 79 = .ok (.iaload, 1) := by decide +kernel
theorem dX12_looksAt_80 : decode cX12_looksAt 80 = .ok (.aload_n 0, 1) := by decide +kernel
theorem dX12_looksAt_81 : decode cX12_looksAt 81 = .ok (.iload_n 3, 1) := by decide +kernel
theorem dX12_looksAt_82 : decode cX12_looksAt 82 = .ok (.iconst 1, 1) := by decide +kernel
theorem dX12_looksAt_83 : decode cX12_looksAt 83 = .ok (.invokevirtual 205, 3) := by decide +kernel
theorem dX12_looksAt_86 : decode cX12_looksAt 86 = .ok (.if_icmp .lt 11, 3) := by decide +kernel
theorem dX12_looksAt_89 : decode cX12_looksAt 89 = .ok (.aload_n 0, 1) := by decide +kernel
theorem dX12_looksAt_90 : decode cX12_looksAt 90 = .ok (.iload_n 1, 1) := by decide +kernel
theorem dX12_looksAt_91 : decode cX12_looksAt 91 = .ok (.iload_n 2, 1) := by decide +kernel
theorem dX12_looksAt_92 : decode cX12_looksAt 92 = .ok (.iload_n 3, 1) := by decide +kernel
theorem dX12_looksAt_93 : decode cX12_looksAt 93 = .ok (.iconst 0, 1) := by decide +kernel
theorem dX12_looksAt_94 : decode cX12_looksAt 94 = .ok (.invokevirtual 268, 3) := by decide +kernel
theorem dX12_looksAt_97 : decode cX12_looksAt 97 = .ok (.iload 5, 2) := by decide +kernel
theorem dX12_looksAt_99 : decode cX12_looksAt 99 = .ok (.ifCond .eq 21, 3) := by decide +kernel
theorem dX12_looksAt_102 : decode cX12_looksAt 102 = .ok (.aload_n 0, 1) := by decide +kernel
theorem dX12_looksAt_103 : decode cX12_looksAt 103 = .ok (.getfield 7, 3) := by decide +kernel
theorem dX12_looksAt_106 : decode cX12_looksAt 106 = .ok (.iload 4, 2) := by decide +kernel
theorem dX12_looksAt_108 : decode cX12_looksAt 108 = .ok (.iaload, 1) := by decide +kernel
theorem dX12_looksAt_109 : decode cX12_looksAt 109 = .ok (.ifCond .ne 11, 3) := by decide +kernel
theorem dX12_looksAt_112 : decode cX12_looksAt 112 = .ok (.aload_n 0, 1) := by decide +kernel
theorem dX12_looksAt_113 : decode cX12_looksAt 113 = .ok (.iload_n 1, 1) := by decide +kernel
theorem dX12_looksAt_114 : decode cX12_looksAt 114 = .ok (.iload_n 2, 1) := by decide +kernel
theorem dX12_looksAt_115 : decode cX12_looksAt 115 = .ok (.iload_n 3, 1) := by decide +kernel
theorem dX12_looksAt_116 : decode cX12_looksAt 116 = .ok (.iconst 1, 1) := by decide +kernel
theorem dX12_looksAt_117 : decode cX12_looksAt 117 = .ok (.invokevirtual 268, 3) := by decide +kernel
theorem dX12_looksAt_120 : decode cX12_looksAt 120 = .ok (.aload_n 0, 1) := by decide +kernel
theorem dX12_looksAt_121 : decode cX12_looksAt 121 = .ok (.getfield 7, 3) := by decide +kernel
theorem dX12_looksAt_124 : decode cX12_looksAt 124 = .ok (.iload 4, 2) := by decide +kernel
theorem dX12_looksAt_126 : decode cX12_looksAt 126 = .ok (.iload 5, 2) := by decide +kernel
theorem dX12_looksAt_128 : decode cX12_looksAt 128 = .ok (.ifCond .eq 7, 3) := by decide +kernel
theorem dX12_looksAt_131 : decode cX12_looksAt 131 = .ok (.iconst 1, 1) := by decide +kernel
theorem dX12_looksAt_132 : decode cX12_looksAt 132 = .ok (.goto 4, 3) := by decide +kernel
theorem dX12_looksAt_135 : decode cX12_looksAt 135 = .ok (.iconst 0, 1) := by decide +kernel
theorem dX12_looksAt_136 : decode cX12_looksAt 136 = .ok (.iastore, 1) := by decide +kernel
theorem dX12_looksAt_137 : decode cX12_looksAt 137 = .ok (.return_, 1) := by decide +kernel
theorem dX12_mixes_0 : decode cX12_mixes 0 = .ok (.iload_n 3, 1) := by decide +kernel
theorem dX12_mixes_1 : decode cX12_mixes 1 = .ok (.iload_n 2, 1) := by decide +kernel
theorem dX12_mixes_2 : decode cX12_mixes 2 = .ok (.isub, 1) := by decide +kernel
theorem dX12_mixes_3 : decode cX12_mixes 3 = .ok (.iconst 1, 1) := by decide +kernel
theorem dX12_mixes_4 : decode cX12_mixes 4 = .ok (.iadd, 1) := by decide +kernel
theorem dX12_mixes_5 : decode cX12_mixes 5 = .ok (.istore 4, 2) := by decide +kernel
theorem dX12_mixes_7 : decode cX12_mixes 7 = .ok (.iconst 0, 1) := by decide +kernel
theorem dX12_mixes_8 : decode cX12_mixes 8 = .ok (.istore 5, 2) := by decide +kernel
theorem dX12_mixes_10 : decode cX12_mixes 10 = .ok (.iload 5, 2) := by decide +kernel
theorem dX12_mixes_12 : decode cX12_mixes 12 = .ok (.bipush 6, 2) := by decide +kernel
theorem dX12_mixes_14 : decode cX12_mixes 14 = .ok (.if_icmp .ge 88, 3) := by decide +kernel
theorem dX12_mixes_17 : decode cX12_mixes 17 = .ok (.iconst 0, 1) := by decide +kernel
theorem dX12_mixes_18 : decode cX12_mixes 18 = .ok (.istore 6, 2) := by decide +kernel
theorem dX12_mixes_20 : decode cX12_mixes 20 = .ok (.iload_n 2, 1) := by decide +kernel
theorem dX12_mixes_21 : decode cX12_mixes 21 = .ok (.istore 7, 2) := by decide +kernel
theorem dX12_mixes_23 : decode cX12_mixes 23 = .ok (.iload 7, 2) := by decide +kernel
theorem dX12_mixes_25 : decode cX12_mixes 25 = .ok (.iload_n 3, 1) := by decide +kernel
theorem dX12_mixes_26 : decode cX12_mixes 26 = .ok (.if_icmp .gt 23, 3) := by decide +kernel
theorem dX12_mixes_29 : decode cX12_mixes 29 = .ok (.iload 6, 2) := by decide +kernel
theorem dX12_mixes_31 : decode cX12_mixes 31 = .ok (.aload_n 0, 1) := by decide +kernel
theorem dX12_mixes_32 : decode cX12_mixes 32 = .ok (.iload_n 1, 1) := by decide +kernel
theorem dX12_mixes_33 : decode cX12_mixes 33 = .ok (.iload 7, 2) := by decide +kernel
theorem dX12_mixes_35 : decode cX12_mixes 35 = .ok (.iload 5, 2) := by decide +kernel
theorem dX12_mixes_37 : decode cX12_mixes 37 = .ok (.invokevirtual 228, 3) := by decide +kernel
theorem dX12_mixes_40 : decode cX12_mixes 40 = .ok (.iadd, 1) := by decide +kernel
theorem dX12_mixes_41 : decode cX12_mixes 41 = .ok (.istore 6, 2) := by decide +kernel
theorem dX12_mixes_43 : decode cX12_mixes 43 = .ok (.iinc 7 1, 3) := by decide +kernel
theorem dX12_mixes_46 : decode cX12_mixes 46 = .ok (.goto (-23), 3) := by decide +kernel
theorem dX12_mixes_49 : decode cX12_mixes 49 = .ok (.iload_n 2, 1) := by decide +kernel
theorem dX12_mixes_50 : decode cX12_mixes 50 = .ok (.istore 7, 2) := by decide +kernel
theorem dX12_mixes_52 : decode cX12_mixes 52 = .ok (.iload 7, 2) := by decide +kernel
theorem dX12_mixes_54 : decode cX12_mixes 54 = .ok (.iload_n 3, 1) := by decide +kernel
theorem dX12_mixes_55 : decode cX12_mixes 55 = .ok (.if_icmp .gt 41, 3) := by decide +kernel
theorem dX12_mixes_58 : decode cX12_mixes 58 = .ok (.aload_n 0, 1) := by decide +kernel
theorem dX12_mixes_59 : decode cX12_mixes 59 = .ok (.iload_n 1, 1) := by decide +kernel
theorem dX12_mixes_60 : decode cX12_mixes 60 = .ok (.iload 7, 2) := by decide +kernel
theorem dX12_mixes_62 : decode cX12_mixes 62 = .ok (.iload 5, 2) := by decide +kernel
theorem dX12_mixes_64 : decode cX12_mixes 64 = .ok (.iload 6, 2) := by decide +kernel
theorem dX12_mixes_66 : decode cX12_mixes 66 = .ok (.iload 4, 2) := by decide +kernel
theorem dX12_mixes_68 : decode cX12_mixes 68 = .ok (.idiv, 1) := by decide +kernel
theorem dX12_mixes_69 : decode cX12_mixes 69 = .ok (.iload 7, 2) := by decide +kernel
theorem dX12_mixes_71 : decode cX12_mixes 71 = .ok (.iload_n 2, 1) := by decide +kernel
theorem dX12_mixes_72 : decode cX12_mixes 72 = .ok (.isub, 1) := by decide +kernel
theorem dX12_mixes_73 : decode cX12_mixes 73 = .ok (.iload 6, 2) := by decide +kernel
theorem dX12_mixes_75 : decode cX12_mixes 75 = .ok (.iload 4, 2) := by decide +kernel
theorem dX12_mixes_77 : decode cX12_mixes 77 = .ok (.irem, 1) := by decide +kernel
theorem dX12_mixes_78 : decode cX12_mixes 78 = .ok (.if_icmp .ge 7, 3) := by decide +kernel
theorem dX12_mixes_81 : decode cX12_mixes 81 = .ok (.iconst 1, 1) := by decide +kernel
theorem dX12_mixes_82 : decode cX12_mixes 82 = .ok (.goto 4, 3) := by decide +kernel
theorem dX12_mixes_85 : decode cX12_mixes 85 = .ok (.iconst 0, 1) := by decide +kernel
theorem dX12_mixes_86 : decode cX12_mixes 86 = .ok (.iadd, 1) := by decide +kernel
theorem dX12_mixes_87 : decode cX12_mixes 87 = .ok (.invokevirtual 224, 3) := by decide +kernel
theorem dX12_mixes_90 : decode cX12_mixes 90 = .ok (.iinc 7 1, 3) := by decide +kernel
theorem dX12_mixes_93 : decode cX12_mixes 93 = .ok (.goto (-41), 3) := by decide +kernel
theorem dX12_mixes_96 : decode cX12_mixes 96 = .ok (.iinc 5 1, 3) := by decide +kernel
theorem dX12_mixes_99 : decode cX12_mixes 99 = .ok (.goto (-89), 3) := by decide +kernel
theorem dX12_mixes_102 : decode cX12_mixes 102 = .ok (.return_, 1) := by decide +kernel
theorem dX12_goes_0 : decode cX12_goes 0 = .ok (.aload_n 0, 1) := by decide +kernel
theorem dX12_goes_1 : decode cX12_goes 1 = .ok (.getfield 7, 3) := by decide +kernel
theorem dX12_goes_4 : decode cX12_goes 4 = .ok (.iconst 2, 1) := by decide +kernel
theorem dX12_goes_5 : decode cX12_goes 5 = .ok (.iload_n 1, 1) := by decide +kernel
theorem dX12_goes_6 : decode cX12_goes 6 = .ok (.iadd, 1) := by decide +kernel
theorem dX12_goes_7 : decode cX12_goes 7 = .ok (.iaload, 1) := by decide +kernel
theorem dX12_goes_8 : decode cX12_goes 8 = .ok (.istore_n 2, 1) := by decide +kernel
theorem dX12_goes_9 : decode cX12_goes 9 = .ok (.iconst 0, 1) := by decide +kernel
theorem dX12_goes_10 : decode cX12_goes 10 = .ok (.istore_n 3, 1) := by decide +kernel
theorem dX12_goes_11 : decode cX12_goes 11 = .ok (.iload_n 3, 1) := by decide +kernel
theorem dX12_goes_12 : decode cX12_goes 12 = .ok (.iload_n 2, 1) := by decide +kernel
theorem dX12_goes_13 : decode cX12_goes 13 = .ok (.if_icmp .ge 30, 3) := by decide +kernel
theorem dX12_goes_16 : decode cX12_goes 16 = .ok (.aload_n 0, 1) := by decide +kernel
theorem dX12_goes_17 : decode cX12_goes 17 = .ok (.getfield 65, 3) := by decide +kernel
theorem dX12_goes_20 : decode cX12_goes 20 = .ok (.iload_n 3, 1) := by decide +kernel
theorem dX12_goes_21 : decode cX12_goes 21 = .ok (.aload_n 0, 1) := by decide +kernel
theorem dX12_goes_22 : decode cX12_goes 22 = .ok (.iload_n 1, 1) := by decide +kernel
theorem dX12_goes_23 : decode cX12_goes 23 = .ok (.iload_n 3, 1) := by decide +kernel
theorem dX12_goes_24 : decode cX12_goes 24 = .ok (.invokevirtual 262, 3) := by decide +kernel
theorem dX12_goes_27 : decode cX12_goes 27 = .ok (.iconst 1, 1) := by decide +kernel
theorem dX12_goes_28 : decode cX12_goes 28 = .ok (.if_icmp .ne 7, 3) := by decide +kernel
theorem dX12_goes_31 : decode cX12_goes 31 = .ok (.iconst 1, 1) := by decide +kernel
theorem dX12_goes_32 : decode cX12_goes 32 = .ok (.goto 4, 3) := by decide +kernel
theorem dX12_goes_35 : decode cX12_goes 35 = .ok (.iconst 0, 1) := by decide +kernel
theorem dX12_goes_36 : decode cX12_goes 36 = .ok (.bastore, 1) := by decide +kernel
theorem dX12_goes_37 : decode cX12_goes 37 = .ok (.iinc 3 1, 3) := by decide +kernel
theorem dX12_goes_40 : decode cX12_goes 40 = .ok (.goto (-29), 3) := by decide +kernel
theorem dX12_goes_43 : decode cX12_goes 43 = .ok (.iconst 0, 1) := by decide +kernel
theorem dX12_goes_44 : decode cX12_goes 44 = .ok (.istore_n 3, 1) := by decide +kernel
theorem dX12_goes_45 : decode cX12_goes 45 = .ok (.iload_n 3, 1) := by decide +kernel
theorem dX12_goes_46 : decode cX12_goes 46 = .ok (.iload_n 2, 1) := by decide +kernel
theorem dX12_goes_47 : decode cX12_goes 47 = .ok (.if_icmp .ge 95, 3) := by decide +kernel
theorem dX12_goes_50 : decode cX12_goes 50 = .ok (.iconst 0, 1) := by decide +kernel
theorem dX12_goes_51 : decode cX12_goes 51 = .ok (.istore 4, 2) := by decide +kernel
theorem dX12_goes_53 : decode cX12_goes 53 = .ok (.iload 4, 2) := by decide +kernel
theorem dX12_goes_55 : decode cX12_goes 55 = .ok (.bipush 6, 2) := by decide +kernel
theorem dX12_goes_57 : decode cX12_goes 57 = .ok (.if_icmp .ge 24, 3) := by decide +kernel
theorem dX12_goes_60 : decode cX12_goes 60 = .ok (.aload_n 0, 1) := by decide +kernel
theorem dX12_goes_61 : decode cX12_goes 61 = .ok (.getfield 68, 3) := by decide +kernel
theorem dX12_goes_64 : decode cX12_goes 64 = .ok (.iload 4, 2) := by decide +kernel
theorem dX12_goes_66 : decode cX12_goes 66 = .ok (.aload_n 0, 1) := by decide +kernel
theorem dX12_goes_67 : decode cX12_goes 67 = .ok (.iload_n 1, 1) := by decide +kernel
theorem dX12_goes_68 : decode cX12_goes 68 = .ok (.iload_n 3, 1) := by decide +kernel
theorem dX12_goes_69 : decode cX12_goes 69 = .ok (.iload 4, 2) := by decide +kernel
theorem dX12_goes_71 : decode cX12_goes 71 = .ok (.invokevirtual 228, 3) := by decide +kernel
theorem dX12_goes_74 : decode cX12_goes 74 = .ok (.iastore, 1) := by decide +kernel
theorem dX12_goes_75 : decode cX12_goes 75 = .ok (.iinc 4 1, 3) := by decide +kernel
theorem dX12_goes_78 : decode cX12_goes 78 = .ok (.goto (-25), 3) := by decide +kernel
theorem dX12_goes_81 : decode cX12_goes 81 = .ok (.iconst 0, 1) := by decide +kernel
theorem dX12_goes_82 : decode cX12_goes 82 = .ok (.istore 4, 2) := by decide +kernel
theorem dX12_goes_84 : decode cX12_goes 84 = .ok (.iload 4, 2) := by decide +kernel
theorem dX12_goes_86 : decode cX12_goes 86 = .ok (.iconst 5, 1) := by decide +kernel
theorem dX12_goes_87 : decode cX12_goes 87 = .ok (.if_icmp .ge 26, 3) := by decide +kernel
theorem dX12_goes_90 : decode cX12_goes 90 = .ok (.aload_n 0, 1) := by decide +kernel
theorem dX12_goes_91 : decode cX12_goes 91 = .ok (.iload 4, 2) := by decide +kernel
theorem dX12_goes_93 : decode cX12_goes 93 = .ok (.invokevirtual 202, 3) := by decide +kernel
theorem dX12_goes_96 : decode cX12_goes 96 = .ok (.ifCond .eq 11, 3) := by decide +kernel
theorem dX12_goes_99 : decode cX12_goes 99 = .ok (.aload_n 0, 1) := by decide +kernel
theorem dX12_goes_100 : decode cX12_goes 100 = .ok (.iload_n 1, 1) := by decide +kernel
theorem dX12_goes_101 : decode cX12_goes 101 = .ok (.iload_n 3, 1) := by decide +kernel
theorem dX12_goes_102 : decode cX12_goes 102 = .ok (.iload 4, 2) := by decide +kernel
theorem dX12_goes_104 : decode cX12_goes 104 = .ok (.invokevirtual 271, 3) := by decide +kernel
theorem dX12_goes_107 : decode cX12_goes 107 = .ok (.iinc 4 1, 3) := by decide +kernel
theorem dX12_goes_110 : decode cX12_goes 110 = .ok (.goto (-26), 3) := by decide +kernel
theorem dX12_goes_113 : decode cX12_goes 113 = .ok (.iconst 0, 1) := by decide +kernel
theorem dX12_goes_114 : decode cX12_goes 114 = .ok (.istore 4, 2) := by decide +kernel
theorem dX12_goes_116 : decode cX12_goes 116 = .ok (.iload 4, 2) := by decide +kernel
theorem dX12_goes_118 : decode cX12_goes 118 = .ok (.iconst 5, 1) := by decide +kernel
theorem dX12_goes_119 : decode cX12_goes 119 = .ok (.if_icmp .ge 17, 3) := by decide +kernel
theorem dX12_goes_122 : decode cX12_goes 122 = .ok (.aload_n 0, 1) := by decide +kernel
theorem dX12_goes_123 : decode cX12_goes 123 = .ok (.iload_n 1, 1) := by decide +kernel
theorem dX12_goes_124 : decode cX12_goes 124 = .ok (.iload_n 3, 1) := by decide +kernel
theorem dX12_goes_125 : decode cX12_goes 125 = .ok (.iload 4, 2) := by decide +kernel
theorem dX12_goes_127 : decode cX12_goes 127 = .ok (.invokevirtual 275, 3) := by decide +kernel
theorem dX12_goes_130 : decode cX12_goes 130 = .ok (.iinc 4 1, 3) := by decide +kernel
theorem dX12_goes_133 : decode cX12_goes 133 = .ok (.goto (-17), 3) := by decide +kernel
theorem dX12_goes_136 : decode cX12_goes 136 = .ok (.iinc 3 1, 3) := by decide +kernel
theorem dX12_goes_139 : decode cX12_goes 139 = .ok (.goto (-94), 3) := by decide +kernel
theorem dX12_goes_142 : decode cX12_goes 142 = .ok (.iconst 0, 1) := by decide +kernel
theorem dX12_goes_143 : decode cX12_goes 143 = .ok (.istore_n 3, 1) := by decide +kernel
theorem dX12_goes_144 : decode cX12_goes 144 = .ok (.iload_n 3, 1) := by decide +kernel
theorem dX12_goes_145 : decode cX12_goes 145 = .ok (.iload_n 2, 1) := by decide +kernel
theorem dX12_goes_146 : decode cX12_goes 146 = .ok (.if_icmp .ge 57, 3) := by decide +kernel
theorem dX12_goes_149 : decode cX12_goes 149 = .ok (.iload_n 3, 1) := by decide +kernel
theorem dX12_goes_150 : decode cX12_goes 150 = .ok (.istore 4, 2) := by decide +kernel
theorem dX12_goes_152 : decode cX12_goes 152 = .ok (.aload_n 0, 1) := by decide +kernel
theorem dX12_goes_153 : decode cX12_goes 153 = .ok (.getfield 65, 3) := by decide +kernel
theorem dX12_goes_156 : decode cX12_goes 156 = .ok (.iload_n 3, 1) := by decide +kernel
theorem dX12_goes_157 : decode cX12_goes 157 = .ok (.baload, 1) := by decide +kernel
theorem dX12_goes_158 : decode cX12_goes 158 = .ok (.ifCond .eq 29, 3) := by decide +kernel
theorem dX12_goes_161 : decode cX12_goes 161 = .ok (.iload 4, 2) := by decide +kernel
theorem dX12_goes_163 : decode cX12_goes 163 = .ok (.iconst 1, 1) := by decide +kernel
theorem dX12_goes_164 : decode cX12_goes 164 = .ok (.iadd, 1) := by decide +kernel
theorem dX12_goes_165 : decode cX12_goes 165 = .ok (.iload_n 2, 1) := by decide +kernel
theorem dX12_goes_166 : decode cX12_goes 166 = .ok (.if_icmp .ge 21, 3) := by decide +kernel
theorem dX12_goes_169 : decode cX12_goes 169 = .ok (.aload_n 0, 1) := by decide +kernel
theorem dX12_goes_170 : decode cX12_goes 170 = .ok (.getfield 65, 3) := by decide +kernel
theorem dX12_goes_173 : decode cX12_goes 173 = .ok (.iload 4, 2) := by decide +kernel
theorem dX12_goes_175 : decode cX12_goes 175 = .ok (.iconst 1, 1) := by decide +kernel
theorem dX12_goes_176 : decode cX12_goes 176 = .ok (.iadd, 1) := by decide +kernel
theorem dX12_goes_177 : decode cX12_goes 177 = .ok (.baload, 1) := by decide +kernel
theorem dX12_goes_178 : decode cX12_goes 178 = .ok (.ifCond .eq 9, 3) := by decide +kernel
theorem dX12_goes_181 : decode cX12_goes 181 = .ok (.iinc 4 1, 3) := by decide +kernel
theorem dX12_goes_184 : decode cX12_goes 184 = .ok (.goto (-32), 3) := by decide +kernel
theorem dX12_goes_187 : decode cX12_goes 187 = .ok (.aload_n 0, 1) := by decide +kernel
theorem dX12_goes_188 : decode cX12_goes 188 = .ok (.iload_n 1, 1) := by decide +kernel
theorem dX12_goes_189 : decode cX12_goes 189 = .ok (.iload_n 3, 1) := by decide +kernel
theorem dX12_goes_190 : decode cX12_goes 190 = .ok (.iload 4, 2) := by decide +kernel
theorem dX12_goes_192 : decode cX12_goes 192 = .ok (.invokevirtual 278, 3) := by decide +kernel
theorem dX12_goes_195 : decode cX12_goes 195 = .ok (.iload 4, 2) := by decide +kernel
theorem dX12_goes_197 : decode cX12_goes 197 = .ok (.iconst 1, 1) := by decide +kernel
theorem dX12_goes_198 : decode cX12_goes 198 = .ok (.iadd, 1) := by decide +kernel
theorem dX12_goes_199 : decode cX12_goes 199 = .ok (.istore_n 3, 1) := by decide +kernel
theorem dX12_goes_200 : decode cX12_goes 200 = .ok (.goto (-56), 3) := by decide +kernel
theorem dX12_goes_203 : decode cX12_goes 203 = .ok (.aload_n 0, 1) := by decide +kernel
theorem dX12_goes_204 : decode cX12_goes 204 = .ok (.getfield 7, 3) := by decide +kernel
theorem dX12_goes_207 : decode cX12_goes 207 = .ok (.iconst 4, 1) := by decide +kernel
theorem dX12_goes_208 : decode cX12_goes 208 = .ok (.dup2, 1) := by decide +kernel
theorem dX12_goes_209 : decode cX12_goes 209 = .ok (.iaload, 1) := by decide +kernel
theorem dX12_goes_210 : decode cX12_goes 210 = .ok (.iconst 1, 1) := by decide +kernel
theorem dX12_goes_211 : decode cX12_goes 211 = .ok (.iadd, 1) := by decide +kernel
theorem dX12_goes_212 : decode cX12_goes 212 = .ok (.iastore, 1) := by decide +kernel
theorem dX12_goes_213 : decode cX12_goes 213 = .ok (.return_, 1) := by decide +kernel
theorem dX12_steps_0 : decode cX12_steps 0 = .ok (.iload_n 1, 1) := by decide +kernel
theorem dX12_steps_1 : decode cX12_steps 1 = .ok (.invokestatic 82, 3) := by decide +kernel
theorem dX12_steps_4 : decode cX12_steps 4 = .ok (.ifCond .eq 15, 3) := by decide +kernel
theorem dX12_steps_7 : decode cX12_steps 7 = .ok (.iload_n 2, 1) := by decide +kernel
theorem dX12_steps_8 : decode cX12_steps 8 = .ok (.i2l, 1) := by decide +kernel
theorem dX12_steps_9 : decode cX12_steps 9 = .ok (.lconst 1, 1) := by decide +kernel
theorem dX12_steps_10 : decode cX12_steps 10 = .ok (.ldc2_w 281, 3) := by decide +kernel
theorem dX12_steps_13 : decode cX12_steps 13 = .ok (.invokestatic 78, 3) := by decide +kernel
theorem dX12_steps_16 : decode cX12_steps 16 = .ok (.ifCond .ne 5, 3) := by decide +kernel
theorem dX12_steps_19 : decode cX12_steps 19 = .ok (.iconst (-1), 1) := by decide +kernel
theorem dX12_steps_20 : decode cX12_steps 20 = .ok (.ireturn, 1) := by decide +kernel
theorem dX12_steps_21 : decode cX12_steps 21 = .ok (.aload_n 0, 1) := by decide +kernel
theorem dX12_steps_22 : decode cX12_steps 22 = .ok (.invokevirtual 256, 3) := by decide +kernel
theorem dX12_steps_25 : decode cX12_steps 25 = .ok (.iconst 0, 1) := by decide +kernel
theorem dX12_steps_26 : decode cX12_steps 26 = .ok (.istore_n 3, 1) := by decide +kernel
theorem dX12_steps_27 : decode cX12_steps 27 = .ok (.iload_n 3, 1) := by decide +kernel
theorem dX12_steps_28 : decode cX12_steps 28 = .ok (.iload_n 2, 1) := by decide +kernel
theorem dX12_steps_29 : decode cX12_steps 29 = .ok (.if_icmp .ge 43, 3) := by decide +kernel
theorem dX12_steps_32 : decode cX12_steps 32 = .ok (.aload_n 0, 1) := by decide +kernel
theorem dX12_steps_33 : decode cX12_steps 33 = .ok (.getfield 7, 3) := by decide +kernel
theorem dX12_steps_36 : decode cX12_steps 36 = .ok (.iconst 4, 1) := by decide +kernel
theorem dX12_steps_37 : decode cX12_steps 37 = .ok (.iaload, 1) := by decide +kernel
theorem dX12_steps_38 : decode cX12_steps 38 = .ok (.sipush 300, 3) := by decide +kernel
theorem dX12_steps_41 : decode cX12_steps 41 = .ok (.if_icmp .ge 31, 3) := by decide +kernel
theorem dX12_steps_44 : decode cX12_steps 44 = .ok (.aload_n 0, 1) := by decide +kernel
theorem dX12_steps_45 : decode cX12_steps 45 = .ok (.iload_n 1, 1) := by decide +kernel
theorem dX12_steps_46 : decode cX12_steps 46 = .ok (.aload_n 0, 1) := by decide +kernel
theorem dX12_steps_47 : decode cX12_steps 47 = .ok (.getfield 7, 3) := by decide +kernel
theorem dX12_steps_50 : decode cX12_steps 50 = .ok (.bipush 8, 2) := by decide +kernel
theorem dX12_steps_52 : decode cX12_steps 52 = .ok (.iload_n 1, 1) := by decide +kernel
theorem dX12_steps_53 : decode cX12_steps 53 = .ok (.iadd, 1) := by decide +kernel
theorem dX12_steps_54 : decode cX12_steps 54 = .ok (.iaload, 1) := by decide +kernel
theorem dX12_steps_55 : decode cX12_steps 55 = .ok (.invokevirtual 259, 3) := by decide +kernel
theorem dX12_steps_58 : decode cX12_steps 58 = .ok (.ifCond .eq 14, 3) := by decide +kernel
theorem dX12_steps_61 : decode cX12_steps 61 = .ok (.aload_n 0, 1) := by decide +kernel
theorem dX12_steps_62 : decode cX12_steps 62 = .ok (.iload_n 1, 1) := by decide +kernel
theorem dX12_steps_63 : decode cX12_steps 63 = .ok (.invokevirtual 283, 3) := by decide +kernel
theorem dX12_steps_66 : decode cX12_steps 66 = .ok (.iinc 3 1, 3) := by decide +kernel
theorem dX12_steps_69 : decode cX12_steps 69 = .ok (.goto (-42), 3) := by decide +kernel
theorem dX12_steps_72 : decode cX12_steps 72 = .ok (.iload_n 3, 1) := by decide +kernel
theorem dX12_steps_73 : decode cX12_steps 73 = .ok (.ireturn, 1) := by decide +kernel
theorem dX12_event_0 : decode cX12_event 0 = .ok (.iload_n 1, 1) := by decide +kernel
theorem dX12_event_1 : decode cX12_event 1 = .ok (.i2l, 1) := by decide +kernel
theorem dX12_event_2 : decode cX12_event 2 = .ok (.lconst 0, 1) := by decide +kernel
theorem dX12_event_3 : decode cX12_event 3 = .ok (.aload_n 0, 1) := by decide +kernel
theorem dX12_event_4 : decode cX12_event 4 = .ok (.getfield 7, 3) := by decide +kernel
theorem dX12_event_7 : decode cX12_event 7 = .ok (.iconst 5, 1) := by decide +kernel
theorem dX12_event_8 : decode cX12_event 8 = .ok (.iaload, 1) := by decide +kernel
theorem dX12_event_9 : decode cX12_event 9 = .ok (.iconst 1, 1) := by decide +kernel
theorem dX12_event_10 : decode cX12_event 10 = .ok (.isub, 1) := by decide +kernel
theorem dX12_event_11 : decode cX12_event 11 = .ok (.i2l, 1) := by decide +kernel
theorem dX12_event_12 : decode cX12_event 12 = .ok (.invokestatic 78, 3) := by decide +kernel
theorem dX12_event_15 : decode cX12_event 15 = .ok (.ifCond .eq 32, 3) := by decide +kernel
theorem dX12_event_18 : decode cX12_event 18 = .ok (.iload_n 2, 1) := by decide +kernel
theorem dX12_event_19 : decode cX12_event 19 = .ok (.i2l, 1) := by decide +kernel
theorem dX12_event_20 : decode cX12_event 20 = .ok (.lconst 0, 1) := by decide +kernel
theorem dX12_event_21 : decode cX12_event 21 = .ok (.ldc2_w 169, 3) := by decide +kernel
theorem dX12_event_24 : decode cX12_event 24 = .ok (.invokestatic 78, 3) := by decide +kernel
theorem dX12_event_27 : decode cX12_event 27 = .ok (.ifCond .eq 20, 3) := by decide +kernel
theorem dX12_event_30 : decode cX12_event 30 = .ok (.aload_n 0, 1) := by decide +kernel
theorem dX12_event_31 : decode cX12_event 31 = .ok (.getfield 7, 3) := by decide +kernel
theorem dX12_event_34 : decode cX12_event 34 = .ok (.sipush 400, 3) := by decide +kernel
theorem dX12_event_37 : decode cX12_event 37 = .ok (.iconst 5, 1) := by decide +kernel
theorem dX12_event_38 : decode cX12_event 38 = .ok (.iload_n 1, 1) := by decide +kernel
theorem dX12_event_39 : decode cX12_event 39 = .ok (.imul, 1) := by decide +kernel
theorem dX12_event_40 : decode cX12_event 40 = .ok (.iadd, 1) := by decide +kernel
theorem dX12_event_41 : decode cX12_event 41 = .ok (.iload_n 2, 1) := by decide +kernel
theorem dX12_event_42 : decode cX12_event 42 = .ok (.iadd, 1) := by decide +kernel
theorem dX12_event_43 : decode cX12_event 43 = .ok (.iaload, 1) := by decide +kernel
theorem dX12_event_44 : decode cX12_event 44 = .ok (.goto 4, 3) := by decide +kernel
theorem dX12_event_47 : decode cX12_event 47 = .ok (.iconst (-1), 1) := by decide +kernel
theorem dX12_event_48 : decode cX12_event 48 = .ok (.ireturn, 1) := by decide +kernel
theorem dX12_hand_0 : decode cX12_hand 0 = .ok (.iload_n 1, 1) := by decide +kernel
theorem dX12_hand_1 : decode cX12_hand 1 = .ok (.invokestatic 82, 3) := by decide +kernel
theorem dX12_hand_4 : decode cX12_hand 4 = .ok (.ifCond .eq 33, 3) := by decide +kernel
theorem dX12_hand_7 : decode cX12_hand 7 = .ok (.iload_n 2, 1) := by decide +kernel
theorem dX12_hand_8 : decode cX12_hand 8 = .ok (.i2l, 1) := by decide +kernel
theorem dX12_hand_9 : decode cX12_hand 9 = .ok (.lconst 1, 1) := by decide +kernel
theorem dX12_hand_10 : decode cX12_hand 10 = .ok (.ldc2_w 222, 3) := by decide +kernel
theorem dX12_hand_13 : decode cX12_hand 13 = .ok (.invokestatic 78, 3) := by decide +kernel
theorem dX12_hand_16 : decode cX12_hand 16 = .ok (.ifCond .eq 21, 3) := by decide +kernel
theorem dX12_hand_19 : decode cX12_hand 19 = .ok (.aload_n 0, 1) := by decide +kernel
theorem dX12_hand_20 : decode cX12_hand 20 = .ok (.getfield 7, 3) := by decide +kernel
theorem dX12_hand_23 : decode cX12_hand 23 = .ok (.iconst 2, 1) := by decide +kernel
theorem dX12_hand_24 : decode cX12_hand 24 = .ok (.iaload, 1) := by decide +kernel
theorem dX12_hand_25 : decode cX12_hand 25 = .ok (.ifCond .eq 12, 3) := by decide +kernel
theorem dX12_hand_28 : decode cX12_hand 28 = .ok (.aload_n 0, 1) := by decide +kernel
theorem dX12_hand_29 : decode cX12_hand 29 = .ok (.getfield 7, 3) := by decide +kernel
theorem dX12_hand_32 : decode cX12_hand 32 = .ok (.iconst 3, 1) := by decide +kernel
theorem dX12_hand_33 : decode cX12_hand 33 = .ok (.iaload, 1) := by decide +kernel
theorem dX12_hand_34 : decode cX12_hand 34 = .ok (.ifCond .ne 5, 3) := by decide +kernel
theorem dX12_hand_37 : decode cX12_hand 37 = .ok (.iconst 0, 1) := by decide +kernel
theorem dX12_hand_38 : decode cX12_hand 38 = .ok (.ireturn, 1) := by decide +kernel
theorem dX12_hand_39 : decode cX12_hand 39 = .ok (.iconst 1, 1) := by decide +kernel
theorem dX12_hand_40 : decode cX12_hand 40 = .ok (.iload_n 1, 1) := by decide +kernel
theorem dX12_hand_41 : decode cX12_hand 41 = .ok (.isub, 1) := by decide +kernel
theorem dX12_hand_42 : decode cX12_hand 42 = .ok (.istore_n 3, 1) := by decide +kernel
theorem dX12_hand_43 : decode cX12_hand 43 = .ok (.aload_n 0, 1) := by decide +kernel
theorem dX12_hand_44 : decode cX12_hand 44 = .ok (.getfield 7, 3) := by decide +kernel
theorem dX12_hand_47 : decode cX12_hand 47 = .ok (.iconst 2, 1) := by decide +kernel
theorem dX12_hand_48 : decode cX12_hand 48 = .ok (.iload_n 1, 1) := by decide +kernel
theorem dX12_hand_49 : decode cX12_hand 49 = .ok (.iadd, 1) := by decide +kernel
theorem dX12_hand_50 : decode cX12_hand 50 = .ok (.iaload, 1) := by decide +kernel
theorem dX12_hand_51 : decode cX12_hand 51 = .ok (.iconst 1, 1) := by decide +kernel
theorem dX12_hand_52 : decode cX12_hand 52 = .ok (.isub, 1) := by decide +kernel
theorem dX12_hand_53 : decode cX12_hand 53 = .ok (.istore 4, 2) := by decide +kernel
theorem dX12_hand_55 : decode cX12_hand 55 = .ok (.aload_n 0, 1) := by decide +kernel
theorem dX12_hand_56 : decode cX12_hand 56 = .ok (.getfield 7, 3) := by decide +kernel
theorem dX12_hand_59 : decode cX12_hand 59 = .ok (.iconst 2, 1) := by decide +kernel
theorem dX12_hand_60 : decode cX12_hand 60 = .ok (.iload_n 3, 1) := by decide +kernel
theorem dX12_hand_61 : decode cX12_hand 61 = .ok (.iadd, 1) := by decide +kernel
theorem dX12_hand_62 : decode cX12_hand 62 = .ok (.iaload, 1) := by decide +kernel
theorem dX12_hand_63 : decode cX12_hand 63 = .ok (.iconst 1, 1) := by decide +kernel
theorem dX12_hand_64 : decode cX12_hand 64 = .ok (.isub, 1) := by decide +kernel
theorem dX12_hand_65 : decode cX12_hand 65 = .ok (.istore 5, 2) := by decide +kernel
theorem dX12_hand_67 : decode cX12_hand 67 = .ok (.iload_n 2, 1) := by decide +kernel
theorem dX12_hand_68 : decode cX12_hand 68 = .ok (.istore 6, 2) := by decide +kernel
theorem dX12_hand_70 : decode cX12_hand 70 = .ok (.iconst 1, 1) := by decide +kernel
theorem dX12_hand_71 : decode cX12_hand 71 = .ok (.istore 7, 2) := by decide +kernel
theorem dX12_hand_73 : decode cX12_hand 73 = .ok (.iconst 0, 1) := by decide +kernel
theorem dX12_hand_74 : decode cX12_hand 74 = .ok (.istore 8, 2) := by decide +kernel
theorem dX12_hand_76 : decode cX12_hand 76 = .ok (.iload 8, 2) := by decide +kernel
theorem dX12_hand_78 : decode cX12_hand 78 = .ok (.bipush 6, 2) := by decide +kernel
theorem dX12_hand_80 : decode cX12_hand 80 = .ok (.if_icmp .ge 76, 3) := by decide +kernel
theorem dX12_hand_83 : decode cX12_hand 83 = .ok (.aload_n 0, 1) := by decide +kernel
theorem dX12_hand_84 : decode cX12_hand 84 = .ok (.iload_n 1, 1) := by decide +kernel
theorem dX12_hand_85 : decode cX12_hand 85 = .ok (.iload 4, 2) := by decide +kernel
theorem dX12_hand_87 : decode cX12_hand 87 = .ok (.iload 8, 2) := by decide +kernel
theorem dX12_hand_89 : decode cX12_hand 89 = .ok (.invokevirtual 228, 3) := by decide +kernel
theorem dX12_hand_92 : decode cX12_hand 92 = .ok (.iload 6, 2) := by decide +kernel
theorem dX12_hand_94 : decode cX12_hand 94 = .ok (.if_icmp .ge 15, 3) := by decide +kernel
theorem dX12_hand_97 : decode cX12_hand 97 = .ok (.aload_n 0, 1) := by decide +kernel
theorem dX12_hand_98 : decode cX12_hand 98 = .ok (.iload_n 1, 1) := by decide +kernel
theorem dX12_hand_99 : decode cX12_hand 99 = .ok (.iload 4, 2) := by decide +kernel
theorem dX12_hand_101 : decode cX12_hand 101 = .ok (.iload 8, 2) := by decide +kernel
theorem dX12_hand_103 : decode cX12_hand 103 = .ok (.invokevirtual 228, 3) := by decide +kernel
theorem dX12_hand_106 : decode cX12_hand 106 = .ok (.goto 5, 3) := by decide +kernel
theorem dX12_hand_109 : decode cX12_hand 109 = .ok (.iload 6, 2) := by decide +kernel
theorem dX12_hand_111 : decode cX12_hand 111 = .ok (.istore 9, 2) := by decide +kernel
theorem dX12_hand_113 : decode cX12_hand 113 = .ok (.iload 7, 2) := by decide +kernel
theorem dX12_hand_115 : decode cX12_hand 115 = .ok (.ifCond .eq 25, 3) := by decide +kernel
theorem dX12_hand_118 : decode cX12_hand 118 = .ok (.aload_n 0, 1) := by decide +kernel
theorem dX12_hand_119 : decode cX12_hand 119 = .ok (.iload_n 3, 1) := by decide +kernel
theorem dX12_hand_120 : decode cX12_hand 120 = .ok (.iload 5, 2) := by decide +kernel
theorem dX12_hand_122 : decode cX12_hand 122 = .ok (.iload 8, 2) := by decide +kernel
theorem dX12_hand_124 : decode cX12_hand 124 = .ok (.invokevirtual 228, 3) := by decide +kernel
theorem dX12_hand_127 : decode cX12_hand 127 = .ok (.iload 9, 2) := by decide +kernel
theorem dX12_hand_129 : decode cX12_hand 129 = .ok (.iadd, 1) := by decide +kernel
theorem dX12_hand_130 : decode cX12_hand 130 = .ok (.ldc_w 267, 3) := by decide +kernel
theorem dX12_hand_133 : decode cX12_hand 133 = .ok (.if_icmp .gt 7, 3) := by decide +kernel
theorem dX12_hand_136 : decode cX12_hand 136 = .ok (.iconst 1, 1) := by decide +kernel
theorem dX12_hand_137 : decode cX12_hand 137 = .ok (.goto 4, 3) := by decide +kernel
theorem dX12_hand_140 : decode cX12_hand 140 = .ok (.iconst 0, 1) := by decide +kernel
theorem dX12_hand_141 : decode cX12_hand 141 = .ok (.istore 7, 2) := by decide +kernel
theorem dX12_hand_143 : decode cX12_hand 143 = .ok (.iload 6, 2) := by decide +kernel
theorem dX12_hand_145 : decode cX12_hand 145 = .ok (.iload 9, 2) := by decide +kernel
theorem dX12_hand_147 : decode cX12_hand 147 = .ok (.isub, 1) := by decide +kernel
theorem dX12_hand_148 : decode cX12_hand 148 = .ok (.istore 6, 2) := by decide +kernel
theorem dX12_hand_150 : decode cX12_hand 150 = .ok (.iinc 8 1, 3) := by decide +kernel
theorem dX12_hand_153 : decode cX12_hand 153 = .ok (.goto (-77), 3) := by decide +kernel
theorem dX12_hand_156 : decode cX12_hand 156 = .ok (.iload 7, 2) := by decide +kernel
theorem dX12_hand_158 : decode cX12_hand 158 = .ok (.ifCond .eq 8, 3) := by decide +kernel
theorem dX12_hand_161 : decode cX12_hand 161 = .ok (.iload 6, 2) := by decide +kernel
theorem dX12_hand_163 : decode cX12_hand 163 = .ok (.ifCond .le 5, 3) := by decide +kernel
theorem dX12_hand_166 : decode cX12_hand 166 = .ok (.iconst 0, 1) := by decide +kernel
theorem dX12_hand_167 : decode cX12_hand 167 = .ok (.ireturn, 1) := by decide +kernel
theorem dX12_hand_168 : decode cX12_hand 168 = .ok (.iload_n 2, 1) := by decide +kernel
theorem dX12_hand_169 : decode cX12_hand 169 = .ok (.istore 6, 2) := by decide +kernel
theorem dX12_hand_171 : decode cX12_hand 171 = .ok (.iconst 0, 1) := by decide +kernel
theorem dX12_hand_172 : decode cX12_hand 172 = .ok (.istore 8, 2) := by decide +kernel
theorem dX12_hand_174 : decode cX12_hand 174 = .ok (.iload 8, 2) := by decide +kernel
theorem dX12_hand_176 : decode cX12_hand 176 = .ok (.bipush 6, 2) := by decide +kernel
theorem dX12_hand_178 : decode cX12_hand 178 = .ok (.if_icmp .ge 88, 3) := by decide +kernel
theorem dX12_hand_181 : decode cX12_hand 181 = .ok (.aload_n 0, 1) := by decide +kernel
theorem dX12_hand_182 : decode cX12_hand 182 = .ok (.iload_n 1, 1) := by decide +kernel
theorem dX12_hand_183 : decode cX12_hand 183 = .ok (.iload 4, 2) := by decide +kernel
theorem dX12_hand_185 : decode cX12_hand 185 = .ok (.iload 8, 2) := by decide +kernel
theorem dX12_hand_187 : decode cX12_hand 187 = .ok (.invokevirtual 228, 3) := by decide +kernel
theorem dX12_hand_190 : decode cX12_hand 190 = .ok (.iload 6, 2) := by decide +kernel
theorem dX12_hand_192 : decode cX12_hand 192 = .ok (.if_icmp .ge 15, 3) := by decide +kernel
theorem dX12_hand_195 : decode cX12_hand 195 = .ok (.aload_n 0, 1) := by decide +kernel
theorem dX12_hand_196 : decode cX12_hand 196 = .ok (.iload_n 1, 1) := by decide +kernel
theorem dX12_hand_197 : decode cX12_hand 197 = .ok (.iload 4, 2) := by decide +kernel
theorem dX12_hand_199 : decode cX12_hand 199 = .ok (.iload 8, 2) := by decide +kernel
theorem dX12_hand_201 : decode cX12_hand 201 = .ok (.invokevirtual 228, 3) := by decide +kernel
theorem dX12_hand_204 : decode cX12_hand 204 = .ok (.goto 5, 3) := by decide +kernel
theorem dX12_hand_207 : decode cX12_hand 207 = .ok (.iload 6, 2) := by decide +kernel
theorem dX12_hand_209 : decode cX12_hand 209 = .ok (.istore 9, 2) := by decide +kernel
theorem dX12_hand_211 : decode cX12_hand 211 = .ok (.aload_n 0, 1) := by decide +kernel
theorem dX12_hand_212 : decode cX12_hand 212 = .ok (.iload_n 1, 1) := by decide +kernel
theorem dX12_hand_213 : decode cX12_hand 213 = .ok (.iload 4, 2) := by decide +kernel
theorem dX12_hand_215 : decode cX12_hand 215 = .ok (.iload 8, 2) := by decide +kernel
theorem dX12_hand_217 : decode cX12_hand 217 = .ok (.aload_n 0, 1) := by decide +kernel
theorem dX12_hand_218 : decode cX12_hand 218 = .ok (.iload_n 1, 1) := by decide +kernel
theorem dX12_hand_219 : decode cX12_hand 219 = .ok (.iload 4, 2) := by decide +kernel
theorem dX12_hand_221 : decode cX12_hand 221 = .ok (.iload 8, 2) := by decide +kernel
theorem dX12_hand_223 : decode cX12_hand 223 = .ok (.invokevirtual 228, 3) := by decide +kernel
theorem dX12_hand_226 : decode cX12_hand 226 = .ok (.iload 9, 2) := by decide +kernel
theorem dX12_hand_228 : decode cX12_hand 228 = .ok (.isub, 1) := by decide +kernel
theorem dX12_hand_229 : decode cX12_hand 229 = .ok (.invokevirtual 224, 3) := by decide +kernel
theorem dX12_hand_232 : decode cX12_hand 232 = .ok (.aload_n 0, 1) := by decide +kernel
theorem dX12_hand_233 : decode cX12_hand 233 = .ok (.iload_n 3, 1) := by decide +kernel
theorem dX12_hand_234 : decode cX12_hand 234 = .ok (.iload 5, 2) := by decide +kernel
theorem dX12_hand_236 : decode cX12_hand 236 = .ok (.iload 8, 2) := by decide +kernel
theorem dX12_hand_238 : decode cX12_hand 238 = .ok (.aload_n 0, 1) := by decide +kernel
theorem dX12_hand_239 : decode cX12_hand 239 = .ok (.iload_n 3, 1) := by decide +kernel
theorem dX12_hand_240 : decode cX12_hand 240 = .ok (.iload 5, 2) := by decide +kernel
theorem dX12_hand_242 : decode cX12_hand 242 = .ok (.iload 8, 2) := by decide +kernel
theorem dX12_hand_244 : decode cX12_hand 244 = .ok (.invokevirtual 228, 3) := by decide +kernel
theorem dX12_hand_247 : decode cX12_hand 247 = .ok (.iload 9, 2) := by decide +kernel
theorem dX12_hand_249 : decode cX12_hand 249 = .ok (.iadd, 1) := by decide +kernel
theorem dX12_hand_250 : decode cX12_hand 250 = .ok (.invokevirtual 224, 3) := by decide +kernel
theorem dX12_hand_253 : decode cX12_hand 253 = .ok (.iload 6, 2) := by decide +kernel
theorem dX12_hand_255 : decode cX12_hand 255 = .ok (.iload 9, 2) := by decide +kernel
theorem dX12_hand_257 : decode cX12_hand 257 = .ok (.isub, 1) := by decide +kernel
theorem dX12_hand_258 : decode cX12_hand 258 = .ok (.istore 6, 2) := by decide +kernel
theorem dX12_hand_260 : decode cX12_hand 260 = .ok (.iinc 8 1, 3) := by decide +kernel
theorem dX12_hand_263 : decode cX12_hand 263 = .ok (.goto (-89), 3) := by decide +kernel
theorem dX12_hand_266 : decode cX12_hand 266 = .ok (.iconst 1, 1) := by decide +kernel
theorem dX12_hand_267 : decode cX12_hand 267 = .ok (.ireturn, 1) := by decide +kernel
theorem dX12_light_0 : decode cX12_light 0 = .ok (.aload_n 0, 1) := by decide +kernel
theorem dX12_light_1 : decode cX12_light 1 = .ok (.iload_n 1, 1) := by decide +kernel
theorem dX12_light_2 : decode cX12_light 2 = .ok (.iload_n 2, 1) := by decide +kernel
theorem dX12_light_3 : decode cX12_light 3 = .ok (.invokevirtual 218, 3) := by decide +kernel
theorem dX12_light_6 : decode cX12_light 6 = .ok (.ifCond .eq 33, 3) := by decide +kernel
theorem dX12_light_9 : decode cX12_light 9 = .ok (.iload_n 3, 1) := by decide +kernel
theorem dX12_light_10 : decode cX12_light 10 = .ok (.i2l, 1) := by decide +kernel
theorem dX12_light_11 : decode cX12_light 11 = .ok (.lconst 0, 1) := by decide +kernel
theorem dX12_light_12 : decode cX12_light 12 = .ok (.ldc2_w 169, 3) := by decide +kernel
theorem dX12_light_15 : decode cX12_light 15 = .ok (.invokestatic 78, 3) := by decide +kernel
theorem dX12_light_18 : decode cX12_light 18 = .ok (.ifCond .eq 21, 3) := by decide +kernel
theorem dX12_light_21 : decode cX12_light 21 = .ok (.aload_n 0, 1) := by decide +kernel
theorem dX12_light_22 : decode cX12_light 22 = .ok (.getfield 16, 3) := by decide +kernel
theorem dX12_light_25 : decode cX12_light 25 = .ok (.bipush 80, 2) := by decide +kernel
theorem dX12_light_27 : decode cX12_light 27 = .ok (.iload_n 1, 1) := by decide +kernel
theorem dX12_light_28 : decode cX12_light 28 = .ok (.imul, 1) := by decide +kernel
theorem dX12_light_29 : decode cX12_light 29 = .ok (.iconst 5, 1) := by decide +kernel
theorem dX12_light_30 : decode cX12_light 30 = .ok (.iload_n 2, 1) := by decide +kernel
theorem dX12_light_31 : decode cX12_light 31 = .ok (.imul, 1) := by decide +kernel
theorem dX12_light_32 : decode cX12_light 32 = .ok (.iadd, 1) := by decide +kernel
theorem dX12_light_33 : decode cX12_light 33 = .ok (.iload_n 3, 1) := by decide +kernel
theorem dX12_light_34 : decode cX12_light 34 = .ok (.iadd, 1) := by decide +kernel
theorem dX12_light_35 : decode cX12_light 35 = .ok (.laload, 1) := by decide +kernel
theorem dX12_light_36 : decode cX12_light 36 = .ok (.goto 6, 3) := by decide +kernel
theorem dX12_light_39 : decode cX12_light 39 = .ok (.ldc2_w 265, 3) := by decide +kernel
theorem dX12_light_42 : decode cX12_light 42 = .ok (.lreturn, 1) := by decide +kernel
theorem dX12_sheet_0 : decode cX12_sheet 0 = .ok (.iload_n 1, 1) := by decide +kernel
theorem dX12_sheet_1 : decode cX12_sheet 1 = .ok (.invokestatic 82, 3) := by decide +kernel
theorem dX12_sheet_4 : decode cX12_sheet 4 = .ok (.ifCond .ne 5, 3) := by decide +kernel
theorem dX12_sheet_7 : decode cX12_sheet 7 = .ok (.iconst 0, 1) := by decide +kernel
theorem dX12_sheet_8 : decode cX12_sheet 8 = .ok (.ireturn, 1) := by decide +kernel
theorem dX12_sheet_9 : decode cX12_sheet 9 = .ok (.aload_n 0, 1) := by decide +kernel
theorem dX12_sheet_10 : decode cX12_sheet 10 = .ok (.iload_n 1, 1) := by decide +kernel
theorem dX12_sheet_11 : decode cX12_sheet 11 = .ok (.putfield 26, 3) := by decide +kernel
theorem dX12_sheet_14 : decode cX12_sheet 14 = .ok (.iconst 0, 1) := by decide +kernel
theorem dX12_sheet_15 : decode cX12_sheet 15 = .ok (.istore_n 2, 1) := by decide +kernel
theorem dX12_sheet_16 : decode cX12_sheet 16 = .ok (.iload_n 2, 1) := by decide +kernel
theorem dX12_sheet_17 : decode cX12_sheet 17 = .ok (.bipush 80, 2) := by decide +kernel
theorem dX12_sheet_19 : decode cX12_sheet 19 = .ok (.if_icmp .ge 26, 3) := by decide +kernel
theorem dX12_sheet_22 : decode cX12_sheet 22 = .ok (.aload_n 0, 1) := by decide +kernel
theorem dX12_sheet_23 : decode cX12_sheet 23 = .ok (.getfield 23, 3) := by decide +kernel
theorem dX12_sheet_26 : decode cX12_sheet 26 = .ok (.iload_n 2, 1) := by decide +kernel
theorem dX12_sheet_27 : decode cX12_sheet 27 = .ok (.aload_n 0, 1) := by decide +kernel
theorem dX12_sheet_28 : decode cX12_sheet 28 = .ok (.getfield 16, 3) := by decide +kernel
theorem dX12_sheet_31 : decode cX12_sheet 31 = .ok (.bipush 80, 2) := by decide +kernel
theorem dX12_sheet_33 : decode cX12_sheet 33 = .ok (.iload_n 1, 1) := by decide +kernel
theorem dX12_sheet_34 : decode cX12_sheet 34 = .ok (.imul, 1) := by decide +kernel
theorem dX12_sheet_35 : decode cX12_sheet 35 = .ok (.iload_n 2, 1) := by decide +kernel
theorem dX12_sheet_36 : decode cX12_sheet 36 = .ok (.iadd, 1) := by decide +kernel
theorem dX12_sheet_37 : decode cX12_sheet 37 = .ok (.laload, 1) := by decide +kernel
theorem dX12_sheet_38 : decode cX12_sheet 38 = .ok (.lastore, 1) := by decide +kernel
theorem dX12_sheet_39 : decode cX12_sheet 39 = .ok (.iinc 2 1, 3) := by decide +kernel
theorem dX12_sheet_42 : decode cX12_sheet 42 = .ok (.goto (-26), 3) := by decide +kernel
theorem dX12_sheet_45 : decode cX12_sheet 45 = .ok (.iconst 1, 1) := by decide +kernel
theorem dX12_sheet_46 : decode cX12_sheet 46 = .ok (.ireturn, 1) := by decide +kernel
theorem dX12_alter_0 : decode cX12_alter 0 = .ok (.aload_n 0, 1) := by decide +kernel
theorem dX12_alter_1 : decode cX12_alter 1 = .ok (.getfield 26, 3) := by decide +kernel
theorem dX12_alter_4 : decode cX12_alter 4 = .ok (.ifCond .lt 33, 3) := by decide +kernel
theorem dX12_alter_7 : decode cX12_alter 7 = .ok (.iload_n 1, 1) := by decide +kernel
theorem dX12_alter_8 : decode cX12_alter 8 = .ok (.i2l, 1) := by decide +kernel
theorem dX12_alter_9 : decode cX12_alter 9 = .ok (.lconst 0, 1) := by decide +kernel
theorem dX12_alter_10 : decode cX12_alter 10 = .ok (.ldc2_w 286, 3) := by decide +kernel
theorem dX12_alter_13 : decode cX12_alter 13 = .ok (.invokestatic 78, 3) := by decide +kernel
theorem dX12_alter_16 : decode cX12_alter 16 = .ok (.ifCond .eq 21, 3) := by decide +kernel
theorem dX12_alter_19 : decode cX12_alter 19 = .ok (.iload_n 2, 1) := by decide +kernel
theorem dX12_alter_20 : decode cX12_alter 20 = .ok (.i2l, 1) := by decide +kernel
theorem dX12_alter_21 : decode cX12_alter 21 = .ok (.lconst 0, 1) := by decide +kernel
theorem dX12_alter_22 : decode cX12_alter 22 = .ok (.ldc2_w 169, 3) := by decide +kernel
theorem dX12_alter_25 : decode cX12_alter 25 = .ok (.invokestatic 78, 3) := by decide +kernel
theorem dX12_alter_28 : decode cX12_alter 28 = .ok (.ifCond .eq 9, 3) := by decide +kernel
theorem dX12_alter_31 : decode cX12_alter 31 = .ok (.lload_n 3, 1) := by decide +kernel
theorem dX12_alter_32 : decode cX12_alter 32 = .ok (.lconst 0, 1) := by decide +kernel
theorem dX12_alter_33 : decode cX12_alter 33 = .ok (.lcmp, 1) := by decide +kernel
theorem dX12_alter_34 : decode cX12_alter 34 = .ok (.ifCond .ne 5, 3) := by decide +kernel
theorem dX12_alter_37 : decode cX12_alter 37 = .ok (.iconst 0, 1) := by decide +kernel
theorem dX12_alter_38 : decode cX12_alter 38 = .ok (.ireturn, 1) := by decide +kernel
theorem dX12_alter_39 : decode cX12_alter 39 = .ok (.aload_n 0, 1) := by decide +kernel
theorem dX12_alter_40 : decode cX12_alter 40 = .ok (.getfield 23, 3) := by decide +kernel
theorem dX12_alter_43 : decode cX12_alter 43 = .ok (.iconst 5, 1) := by decide +kernel
theorem dX12_alter_44 : decode cX12_alter 44 = .ok (.iload_n 1, 1) := by decide +kernel
theorem dX12_alter_45 : decode cX12_alter 45 = .ok (.imul, 1) := by decide +kernel
theorem dX12_alter_46 : decode cX12_alter 46 = .ok (.iload_n 2, 1) := by decide +kernel
theorem dX12_alter_47 : decode cX12_alter 47 = .ok (.iadd, 1) := by decide +kernel
theorem dX12_alter_48 : decode cX12_alter 48 = .ok (.dup2, 1) := by decide +kernel
theorem dX12_alter_49 : decode cX12_alter 49 = .ok (.laload, 1) := by decide +kernel
theorem dX12_alter_50 : decode cX12_alter 50 = .ok (.lload_n 3, 1) := by decide +kernel
theorem dX12_alter_51 : decode cX12_alter 51 = .ok (.lxor, 1) := by decide +kernel
theorem dX12_alter_52 : decode cX12_alter 52 = .ok (.lastore, 1) := by decide +kernel
theorem dX12_alter_53 : decode cX12_alter 53 = .ok (.iconst 1, 1) := by decide +kernel
theorem dX12_alter_54 : decode cX12_alter 54 = .ok (.ireturn, 1) := by decide +kernel
theorem dX12_check_0 : decode cX12_check 0 = .ok (.aload_n 0, 1) := by decide +kernel
theorem dX12_check_1 : decode cX12_check 1 = .ok (.getfield 26, 3) := by decide +kernel
theorem dX12_check_4 : decode cX12_check 4 = .ok (.ifCond .lt 15, 3) := by decide +kernel
theorem dX12_check_7 : decode cX12_check 7 = .ok (.iload_n 1, 1) := by decide +kernel
theorem dX12_check_8 : decode cX12_check 8 = .ok (.i2l, 1) := by decide +kernel
theorem dX12_check_9 : decode cX12_check 9 = .ok (.lconst 0, 1) := by decide +kernel
theorem dX12_check_10 : decode cX12_check 10 = .ok (.ldc2_w 288, 3) := by decide +kernel
theorem dX12_check_13 : decode cX12_check 13 = .ok (.invokestatic 78, 3) := by decide +kernel
theorem dX12_check_16 : decode cX12_check 16 = .ok (.ifCond .ne 5, 3) := by decide +kernel
theorem dX12_check_19 : decode cX12_check 19 = .ok (.iconst (-1), 1) := by decide +kernel
theorem dX12_check_20 : decode cX12_check 20 = .ok (.ireturn, 1) := by decide +kernel
theorem dX12_check_21 : decode cX12_check 21 = .ok (.iconst 0, 1) := by decide +kernel
theorem dX12_check_22 : decode cX12_check 22 = .ok (.istore_n 2, 1) := by decide +kernel
theorem dX12_check_23 : decode cX12_check 23 = .ok (.iconst 0, 1) := by decide +kernel
theorem dX12_check_24 : decode cX12_check 24 = .ok (.istore_n 3, 1) := by decide +kernel
theorem dX12_check_25 : decode cX12_check 25 = .ok (.iconst 0, 1) := by decide +kernel
theorem dX12_check_26 : decode cX12_check 26 = .ok (.istore 4, 2) := by decide +kernel
theorem dX12_check_28 : decode cX12_check 28 = .ok (.iload 4, 2) := by decide +kernel
theorem dX12_check_30 : decode cX12_check 30 = .ok (.bipush 80, 2) := by decide +kernel
theorem dX12_check_32 : decode cX12_check 32 = .ok (.if_icmp .ge 41, 3) := by decide +kernel
theorem dX12_check_35 : decode cX12_check 35 = .ok (.aload_n 0, 1) := by decide +kernel
theorem dX12_check_36 : decode cX12_check 36 = .ok (.getfield 23, 3) := by decide +kernel
theorem dX12_check_39 : decode cX12_check 39 = .ok (.iload 4, 2) := by decide +kernel
theorem dX12_check_41 : decode cX12_check 41 = .ok (.laload, 1) := by decide +kernel
theorem dX12_check_42 : decode cX12_check 42 = .ok (.aload_n 0, 1) := by decide +kernel
theorem dX12_check_43 : decode cX12_check 43 = .ok (.getfield 16, 3) := by decide +kernel
theorem dX12_check_46 : decode cX12_check 46 = .ok (.bipush 80, 2) := by decide +kernel
theorem dX12_check_48 : decode cX12_check 48 = .ok (.aload_n 0, 1) := by decide +kernel
theorem dX12_check_49 : decode cX12_check 49 = .ok (.getfield 26, 3) := by decide +kernel
theorem dX12_check_52 : decode cX12_check 52 = .ok (.imul, 1) := by decide +kernel
theorem dX12_check_53 : decode cX12_check 53 = .ok (.iload 4, 2) := by decide +kernel
theorem dX12_check_55 : decode cX12_check 55 = .ok (.iadd, 1) := by decide +kernel
theorem dX12_check_56 : decode cX12_check 56 = .ok (.laload, 1) := by decide +kernel
theorem dX12_check_57 : decode cX12_check 57 = .ok (.lcmp, 1) := by decide +kernel
theorem dX12_check_58 : decode cX12_check 58 = .ok (.ifCond .eq 9, 3) := by decide +kernel
theorem dX12_check_61 : decode cX12_check 61 = .ok (.iinc 2 1, 3) := by decide +kernel
theorem dX12_check_64 : decode cX12_check 64 = .ok (.iload 4, 2) := by decide +kernel
theorem dX12_check_66 : decode cX12_check 66 = .ok (.istore_n 3, 1) := by decide +kernel
theorem dX12_check_67 : decode cX12_check 67 = .ok (.iinc 4 1, 3) := by decide +kernel
theorem dX12_check_70 : decode cX12_check 70 = .ok (.goto (-42), 3) := by decide +kernel
theorem dX12_check_73 : decode cX12_check 73 = .ok (.iload_n 1, 1) := by decide +kernel
theorem dX12_check_74 : decode cX12_check 74 = .ok (.ifCond .ne 7, 3) := by decide +kernel
theorem dX12_check_77 : decode cX12_check 77 = .ok (.iload_n 2, 1) := by decide +kernel
theorem dX12_check_78 : decode cX12_check 78 = .ok (.goto 26, 3) := by decide +kernel
theorem dX12_check_81 : decode cX12_check 81 = .ok (.iload_n 2, 1) := by decide +kernel
theorem dX12_check_82 : decode cX12_check 82 = .ok (.iconst 1, 1) := by decide +kernel
theorem dX12_check_83 : decode cX12_check 83 = .ok (.if_icmp .eq 7, 3) := by decide +kernel
theorem dX12_check_86 : decode cX12_check 86 = .ok (.iconst (-1), 1) := by decide +kernel
theorem dX12_check_87 : decode cX12_check 87 = .ok (.goto 17, 3) := by decide +kernel
theorem dX12_check_90 : decode cX12_check 90 = .ok (.iload_n 1, 1) := by decide +kernel
theorem dX12_check_91 : decode cX12_check 91 = .ok (.iconst 1, 1) := by decide +kernel
theorem dX12_check_92 : decode cX12_check 92 = .ok (.if_icmp .ne 9, 3) := by decide +kernel
theorem dX12_check_95 : decode cX12_check 95 = .ok (.iload_n 3, 1) := by decide +kernel
theorem dX12_check_96 : decode cX12_check 96 = .ok (.iconst 5, 1) := by decide +kernel
theorem dX12_check_97 : decode cX12_check 97 = .ok (.idiv, 1) := by decide +kernel
theorem dX12_check_98 : decode cX12_check 98 = .ok (.goto 6, 3) := by decide +kernel
theorem dX12_check_101 : decode cX12_check 101 = .ok (.iload_n 3, 1) := by decide +kernel
theorem dX12_check_102 : decode cX12_check 102 = .ok (.iconst 5, 1) := by decide +kernel
theorem dX12_check_103 : decode cX12_check 103 = .ok (.irem, 1) := by decide +kernel
theorem dX12_check_104 : decode cX12_check 104 = .ok (.ireturn, 1) := by decide +kernel
theorem dX12_isSung_0 : decode cX12_isSung 0 = .ok (.aload_n 0, 1) := by decide +kernel
theorem dX12_isSung_1 : decode cX12_isSung 1 = .ok (.getfield 7, 3) := by decide +kernel
theorem dX12_isSung_4 : decode cX12_isSung 4 = .ok (.iconst 2, 1) := by decide +kernel
theorem dX12_isSung_5 : decode cX12_isSung 5 = .ok (.iload_n 1, 1) := by decide +kernel
theorem dX12_isSung_6 : decode cX12_isSung 6 = .ok (.iadd, 1) := by decide +kernel
theorem dX12_isSung_7 : decode cX12_isSung 7 = .ok (.iaload, 1) := by decide +kernel
theorem dX12_isSung_8 : decode cX12_isSung 8 = .ok (.bipush 7, 2) := by decide +kernel
theorem dX12_isSung_10 : decode cX12_isSung 10 = .ok (.if_icmp .gt 7, 3) := by decide +kernel
theorem dX12_isSung_13 : decode cX12_isSung 13 = .ok (.iconst 1, 1) := by decide +kernel
theorem dX12_isSung_14 : decode cX12_isSung 14 = .ok (.goto 4, 3) := by decide +kernel
theorem dX12_isSung_17 : decode cX12_isSung 17 = .ok (.iconst 0, 1) := by decide +kernel
theorem dX12_isSung_18 : decode cX12_isSung 18 = .ok (.ireturn, 1) := by decide +kernel
theorem dX12_kOf_0 : decode cX12_kOf 0 = .ok (.iload_n 2, 1) := by decide +kernel
theorem dX12_kOf_1 : decode cX12_kOf 1 = .ok (.aload_n 0, 1) := by decide +kernel
theorem dX12_kOf_2 : decode cX12_kOf 2 = .ok (.getfield 7, 3) := by decide +kernel
theorem dX12_kOf_5 : decode cX12_kOf 5 = .ok (.iconst 2, 1) := by decide +kernel
theorem dX12_kOf_6 : decode cX12_kOf 6 = .ok (.iload_n 1, 1) := by decide +kernel
theorem dX12_kOf_7 : decode cX12_kOf 7 = .ok (.iadd, 1) := by decide +kernel
theorem dX12_kOf_8 : decode cX12_kOf 8 = .ok (.iaload, 1) := by decide +kernel
theorem dX12_kOf_9 : decode cX12_kOf 9 = .ok (.if_icmp .ge 15, 3) := by decide +kernel
theorem dX12_kOf_12 : decode cX12_kOf 12 = .ok (.aload_n 0, 1) := by decide +kernel
theorem dX12_kOf_13 : decode cX12_kOf 13 = .ok (.getfield 56, 3) := by decide +kernel
theorem dX12_kOf_16 : decode cX12_kOf 16 = .ok (.iload_n 2, 1) := by decide +kernel
theorem dX12_kOf_17 : decode cX12_kOf 17 = .ok (.iaload, 1) := by decide +kernel
theorem dX12_kOf_18 : decode cX12_kOf 18 = .ok (.bipush 10, 2) := by decide +kernel
theorem dX12_kOf_20 : decode cX12_kOf 20 = .ok (.idiv, 1) := by decide +kernel
theorem dX12_kOf_21 : decode cX12_kOf 21 = .ok (.goto 4, 3) := by decide +kernel
theorem dX12_kOf_24 : decode cX12_kOf 24 = .ok (.iconst 0, 1) := by decide +kernel
theorem dX12_kOf_25 : decode cX12_kOf 25 = .ok (.ireturn, 1) := by decide +kernel
theorem dX12_belowOf_0 : decode cX12_belowOf 0 = .ok (.iconst 0, 1) := by decide +kernel
theorem dX12_belowOf_1 : decode cX12_belowOf 1 = .ok (.istore_n 3, 1) := by decide +kernel
theorem dX12_belowOf_2 : decode cX12_belowOf 2 = .ok (.lconst 1, 1) := by decide +kernel
theorem dX12_belowOf_3 : decode cX12_belowOf 3 = .ok (.lstore 4, 2) := by decide +kernel
theorem dX12_belowOf_5 : decode cX12_belowOf 5 = .ok (.lconst 0, 1) := by decide +kernel
theorem dX12_belowOf_6 : decode cX12_belowOf 6 = .ok (.lstore 6, 2) := by decide +kernel
theorem dX12_belowOf_8 : decode cX12_belowOf 8 = .ok (.lconst 1, 1) := by decide +kernel
theorem dX12_belowOf_9 : decode cX12_belowOf 9 = .ok (.lstore 8, 2) := by decide +kernel
theorem dX12_belowOf_11 : decode cX12_belowOf 11 = .ok (.iconst 0, 1) := by decide +kernel
theorem dX12_belowOf_12 : decode cX12_belowOf 12 = .ok (.istore 10, 2) := by decide +kernel
theorem dX12_belowOf_14 : decode cX12_belowOf 14 = .ok (.iload 10, 2) := by decide +kernel
theorem dX12_belowOf_16 : decode cX12_belowOf 16 = .ok (.aload_n 0, 1) := by decide +kernel
theorem dX12_belowOf_17 : decode cX12_belowOf 17 = .ok (.getfield 7, 3) := by decide +kernel
theorem dX12_belowOf_20 : decode cX12_belowOf 20 = .ok (.iconst 2, 1) := by decide +kernel
theorem dX12_belowOf_21 : decode cX12_belowOf 21 = .ok (.iload_n 1, 1) := by decide +kernel
theorem dX12_belowOf_22 : decode cX12_belowOf 22 = .ok (.iadd, 1) := by decide +kernel
theorem dX12_belowOf_23 : decode cX12_belowOf 23 = .ok (.iaload, 1) := by decide +kernel
theorem dX12_belowOf_24 : decode cX12_belowOf 24 = .ok (.if_icmp .ge 140, 3) := by decide +kernel
theorem dX12_belowOf_27 : decode cX12_belowOf 27 = .ok (.iload 10, 2) := by decide +kernel
theorem dX12_belowOf_29 : decode cX12_belowOf 29 = .ok (.ifCond .ne 7, 3) := by decide +kernel
theorem dX12_belowOf_32 : decode cX12_belowOf 32 = .ok (.lconst 0, 1) := by decide +kernel
theorem dX12_belowOf_33 : decode cX12_belowOf 33 = .ok (.goto 11, 3) := by decide +kernel
theorem dX12_belowOf_36 : decode cX12_belowOf 36 = .ok (.aload_n 0, 1) := by decide +kernel
theorem dX12_belowOf_37 : decode cX12_belowOf 37 = .ok (.iload_n 1, 1) := by decide +kernel
theorem dX12_belowOf_38 : decode cX12_belowOf 38 = .ok (.iload 10, 2) := by decide +kernel
theorem dX12_belowOf_40 : decode cX12_belowOf 40 = .ok (.invokevirtual 290, 3) := by decide +kernel
theorem dX12_belowOf_43 : decode cX12_belowOf 43 = .ok (.i2l, 1) := by decide +kernel
theorem dX12_belowOf_44 : decode cX12_belowOf 44 = .ok (.lstore 11, 2) := by decide +kernel
theorem dX12_belowOf_46 : decode cX12_belowOf 46 = .ok (.lload 11, 2) := by decide +kernel
theorem dX12_belowOf_48 : decode cX12_belowOf 48 = .ok (.lconst 0, 1) := by decide +kernel
theorem dX12_belowOf_49 : decode cX12_belowOf 49 = .ok (.lcmp, 1) := by decide +kernel
theorem dX12_belowOf_50 : decode cX12_belowOf 50 = .ok (.ifCond .ne 12, 3) := by decide +kernel
theorem dX12_belowOf_53 : decode cX12_belowOf 53 = .ok (.lconst 1, 1) := by decide +kernel
theorem dX12_belowOf_54 : decode cX12_belowOf 54 = .ok (.lstore 4, 2) := by decide +kernel
theorem dX12_belowOf_56 : decode cX12_belowOf 56 = .ok (.lconst 0, 1) := by decide +kernel
theorem dX12_belowOf_57 : decode cX12_belowOf 57 = .ok (.lstore 6, 2) := by decide +kernel
theorem dX12_belowOf_59 : decode cX12_belowOf 59 = .ok (.lconst 1, 1) := by decide +kernel
theorem dX12_belowOf_60 : decode cX12_belowOf 60 = .ok (.lstore 8, 2) := by decide +kernel
theorem dX12_belowOf_62 : decode cX12_belowOf 62 = .ok (.aload_n 0, 1) := by decide +kernel
theorem dX12_belowOf_63 : decode cX12_belowOf 63 = .ok (.iload_n 1, 1) := by decide +kernel
theorem dX12_belowOf_64 : decode cX12_belowOf 64 = .ok (.iload 10, 2) := by decide +kernel
theorem dX12_belowOf_66 : decode cX12_belowOf 66 = .ok (.invokevirtual 290, 3) := by decide +kernel
theorem dX12_belowOf_69 : decode cX12_belowOf 69 = .ok (.aload_n 0, 1) := by decide +kernel
theorem dX12_belowOf_70 : decode cX12_belowOf 70 = .ok (.iload_n 1, 1) := by decide +kernel
theorem dX12_belowOf_71 : decode cX12_belowOf 71 = .ok (.iload 10, 2) := by decide +kernel
theorem dX12_belowOf_73 : decode cX12_belowOf 73 = .ok (.iconst 1, 1) := by decide +kernel
theorem dX12_belowOf_74 : decode cX12_belowOf 74 = .ok (.iadd, 1) := by decide +kernel
theorem dX12_belowOf_75 : decode cX12_belowOf 75 = .ok (.invokevirtual 290, 3) := by decide +kernel
theorem dX12_belowOf_78 : decode cX12_belowOf 78 = .ok (.iadd, 1) := by decide +kernel
theorem dX12_belowOf_79 : decode cX12_belowOf 79 = .ok (.iload_n 2, 1) := by decide +kernel
theorem dX12_belowOf_80 : decode cX12_belowOf 80 = .ok (.isub, 1) := by decide +kernel
theorem dX12_belowOf_81 : decode cX12_belowOf 81 = .ok (.i2l, 1) := by decide +kernel
theorem dX12_belowOf_82 : decode cX12_belowOf 82 = .ok (.lload 4, 2) := by decide +kernel
theorem dX12_belowOf_84 : decode cX12_belowOf 84 = .ok (.lmul, 1) := by decide +kernel
theorem dX12_belowOf_85 : decode cX12_belowOf 85 = .ok (.lload 11, 2) := by decide +kernel
theorem dX12_belowOf_87 : decode cX12_belowOf 87 = .ok (.lload 11, 2) := by decide +kernel
theorem dX12_belowOf_89 : decode cX12_belowOf 89 = .ok (.lmul, 1) := by decide +kernel
theorem dX12_belowOf_90 : decode cX12_belowOf 90 = .ok (.lload 6, 2) := by decide +kernel
theorem dX12_belowOf_92 : decode cX12_belowOf 92 = .ok (.lmul, 1) := by decide +kernel
theorem dX12_belowOf_93 : decode cX12_belowOf 93 = .ok (.lsub, 1) := by decide +kernel
theorem dX12_belowOf_94 : decode cX12_belowOf 94 = .ok (.lstore 13, 2) := by decide +kernel
theorem dX12_belowOf_96 : decode cX12_belowOf 96 = .ok (.lload 4, 2) := by decide +kernel
theorem dX12_belowOf_98 : decode cX12_belowOf 98 = .ok (.lstore 6, 2) := by decide +kernel
theorem dX12_belowOf_100 : decode cX12_belowOf 100 = .ok (.lload 13, 2) := by decide +kernel
theorem dX12_belowOf_102 : decode cX12_belowOf 102 = .ok (.lstore 4, 2) := by decide +kernel
theorem dX12_belowOf_104 : decode cX12_belowOf 104 = .ok (.lload 4, 2) := by decide +kernel
theorem dX12_belowOf_106 : decode cX12_belowOf 106 = .ok (.lconst 0, 1) := by decide +kernel
theorem dX12_belowOf_107 : decode cX12_belowOf 107 = .ok (.lcmp, 1) := by decide +kernel
theorem dX12_belowOf_108 : decode cX12_belowOf 108 = .ok (.ifCond .le 7, 3) := by decide +kernel
theorem dX12_belowOf_111 : decode cX12_belowOf 111 = .ok (.lconst 1, 1) := by decide +kernel
theorem dX12_belowOf_112 : decode cX12_belowOf 112 = .ok (.goto 17, 3) := by decide +kernel
theorem dX12_belowOf_115 : decode cX12_belowOf 115 = .ok (.lload 4, 2) := by decide +kernel
theorem dX12_belowOf_117 : decode cX12_belowOf 117 = .ok (.lconst 0, 1) := by decide +kernel
theorem dX12_belowOf_118 : decode cX12_belowOf 118 = .ok (.lcmp, 1) := by decide +kernel
theorem dX12_belowOf_119 : decode cX12_belowOf 119 = .ok (.ifCond .ge 9, 3) := by decide +kernel
theorem dX12_belowOf_122 : decode cX12_belowOf 122 = .ok (.ldc2_w 265, 3) := by decide +kernel
theorem dX12_belowOf_125 : decode cX12_belowOf 125 = .ok (.goto 4, 3) := by decide +kernel
theorem dX12_belowOf_128 : decode cX12_belowOf 128 = .ok (.lconst 0, 1) := by decide +kernel
theorem dX12_belowOf_129 : decode cX12_belowOf 129 = .ok (.lstore 15, 2) := by decide +kernel
theorem dX12_belowOf_131 : decode cX12_belowOf 131 = .ok (.lload 15, 2) := by decide +kernel
theorem dX12_belowOf_133 : decode cX12_belowOf 133 = .ok (.lconst 0, 1) := by decide +kernel
theorem dX12_belowOf_134 : decode cX12_belowOf 134 = .ok (.lcmp, 1) := by decide +kernel
theorem dX12_belowOf_135 : decode cX12_belowOf 135 = .ok (.ifCond .eq 23, 3) := by decide +kernel
theorem dX12_belowOf_138 : decode cX12_belowOf 138 = .ok (.iload_n 3, 1) := by decide +kernel
theorem dX12_belowOf_139 : decode cX12_belowOf 139 = .ok (.lload 15, 2) := by decide +kernel
theorem dX12_belowOf_141 : decode cX12_belowOf 141 = .ok (.lload 8, 2) := by decide +kernel
theorem dX12_belowOf_143 : decode cX12_belowOf 143 = .ok (.lcmp, 1) := by decide +kernel
theorem dX12_belowOf_144 : decode cX12_belowOf 144 = .ok (.ifCond .eq 7, 3) := by decide +kernel
theorem dX12_belowOf_147 : decode cX12_belowOf 147 = .ok (.iconst 1, 1) := by decide +kernel
theorem dX12_belowOf_148 : decode cX12_belowOf 148 = .ok (.goto 4, 3) := by decide +kernel
theorem dX12_belowOf_151 : decode cX12_belowOf 151 = .ok (.iconst 0, 1) := by decide +kernel
theorem dX12_belowOf_152 : decode cX12_belowOf 152 = .ok (.iadd, 1) := by decide +kernel
theorem dX12_belowOf_153 : decode cX12_belowOf 153 = .ok (.istore_n 3, 1) := by decide +kernel
theorem dX12_belowOf_154 : decode cX12_belowOf 154 = .ok (.lload 15, 2) := by decide +kernel
theorem dX12_belowOf_156 : decode cX12_belowOf 156 = .ok (.lstore 8, 2) := by decide +kernel
theorem dX12_belowOf_158 : decode cX12_belowOf 158 = .ok (.iinc 10 1, 3) := by decide +kernel
theorem dX12_belowOf_161 : decode cX12_belowOf 161 = .ok (.goto (-147), 3) := by decide +kernel
theorem dX12_belowOf_164 : decode cX12_belowOf 164 = .ok (.iload_n 3, 1) := by decide +kernel
theorem dX12_belowOf_165 : decode cX12_belowOf 165 = .ok (.ireturn, 1) := by decide +kernel
theorem dX12_below_0 : decode cX12_below 0 = .ok (.iload_n 1, 1) := by decide +kernel
theorem dX12_below_1 : decode cX12_below 1 = .ok (.invokestatic 82, 3) := by decide +kernel
theorem dX12_below_4 : decode cX12_below 4 = .ok (.ifCond .eq 23, 3) := by decide +kernel
theorem dX12_below_7 : decode cX12_below 7 = .ok (.iload_n 2, 1) := by decide +kernel
theorem dX12_below_8 : decode cX12_below 8 = .ok (.i2l, 1) := by decide +kernel
theorem dX12_below_9 : decode cX12_below 9 = .ok (.lconst 0, 1) := by decide +kernel
theorem dX12_below_10 : decode cX12_below 10 = .ok (.ldc2_w 293, 3) := by decide +kernel
theorem dX12_below_13 : decode cX12_below 13 = .ok (.invokestatic 78, 3) := by decide +kernel
theorem dX12_below_16 : decode cX12_below 16 = .ok (.ifCond .eq 11, 3) := by decide +kernel
theorem dX12_below_19 : decode cX12_below 19 = .ok (.aload_n 0, 1) := by decide +kernel
theorem dX12_below_20 : decode cX12_below 20 = .ok (.iload_n 1, 1) := by decide +kernel
theorem dX12_below_21 : decode cX12_below 21 = .ok (.invokevirtual 295, 3) := by decide +kernel
theorem dX12_below_24 : decode cX12_below 24 = .ok (.ifCond .ne 5, 3) := by decide +kernel
theorem dX12_below_27 : decode cX12_below 27 = .ok (.iconst (-1), 1) := by decide +kernel
theorem dX12_below_28 : decode cX12_below 28 = .ok (.ireturn, 1) := by decide +kernel
theorem dX12_below_29 : decode cX12_below 29 = .ok (.aload_n 0, 1) := by decide +kernel
theorem dX12_below_30 : decode cX12_below 30 = .ok (.invokevirtual 256, 3) := by decide +kernel
theorem dX12_below_33 : decode cX12_below 33 = .ok (.aload_n 0, 1) := by decide +kernel
theorem dX12_below_34 : decode cX12_below 34 = .ok (.iload_n 1, 1) := by decide +kernel
theorem dX12_below_35 : decode cX12_below 35 = .ok (.aload_n 0, 1) := by decide +kernel
theorem dX12_below_36 : decode cX12_below 36 = .ok (.getfield 7, 3) := by decide +kernel
theorem dX12_below_39 : decode cX12_below 39 = .ok (.bipush 8, 2) := by decide +kernel
theorem dX12_below_41 : decode cX12_below 41 = .ok (.iload_n 1, 1) := by decide +kernel
theorem dX12_below_42 : decode cX12_below 42 = .ok (.iadd, 1) := by decide +kernel
theorem dX12_below_43 : decode cX12_below 43 = .ok (.iaload, 1) := by decide +kernel
theorem dX12_below_44 : decode cX12_below 44 = .ok (.invokevirtual 259, 3) := by decide +kernel
theorem dX12_below_47 : decode cX12_below 47 = .ok (.ifCond .eq 12, 3) := by decide +kernel
theorem dX12_below_50 : decode cX12_below 50 = .ok (.aload_n 0, 1) := by decide +kernel
theorem dX12_below_51 : decode cX12_below 51 = .ok (.iload_n 1, 1) := by decide +kernel
theorem dX12_below_52 : decode cX12_below 52 = .ok (.iload_n 2, 1) := by decide +kernel
theorem dX12_below_53 : decode cX12_below 53 = .ok (.invokevirtual 298, 3) := by decide +kernel
theorem dX12_below_56 : decode cX12_below 56 = .ok (.goto 4, 3) := by decide +kernel
theorem dX12_below_59 : decode cX12_below 59 = .ok (.iconst (-1), 1) := by decide +kernel
theorem dX12_below_60 : decode cX12_below 60 = .ok (.ireturn, 1) := by decide +kernel
theorem dX12_toneOf_0 : decode cX12_toneOf 0 = .ok (.iconst 0, 1) := by decide +kernel
theorem dX12_toneOf_1 : decode cX12_toneOf 1 = .ok (.istore_n 3, 1) := by decide +kernel
theorem dX12_toneOf_2 : decode cX12_toneOf 2 = .ok (.iload_n 3, 1) := by decide +kernel
theorem dX12_toneOf_3 : decode cX12_toneOf 3 = .ok (.sipush 400, 3) := by decide +kernel
theorem dX12_toneOf_6 : decode cX12_toneOf 6 = .ok (.if_icmp .ge 21, 3) := by decide +kernel
theorem dX12_toneOf_9 : decode cX12_toneOf 9 = .ok (.aload_n 0, 1) := by decide +kernel
theorem dX12_toneOf_10 : decode cX12_toneOf 10 = .ok (.iload_n 1, 1) := by decide +kernel
theorem dX12_toneOf_11 : decode cX12_toneOf 11 = .ok (.iload_n 3, 1) := by decide +kernel
theorem dX12_toneOf_12 : decode cX12_toneOf 12 = .ok (.iconst 1, 1) := by decide +kernel
theorem dX12_toneOf_13 : decode cX12_toneOf 13 = .ok (.iadd, 1) := by decide +kernel
theorem dX12_toneOf_14 : decode cX12_toneOf 14 = .ok (.invokevirtual 298, 3) := by decide +kernel
theorem dX12_toneOf_17 : decode cX12_toneOf 17 = .ok (.iload_n 2, 1) := by decide +kernel
theorem dX12_toneOf_18 : decode cX12_toneOf 18 = .ok (.if_icmp .gt 9, 3) := by decide +kernel
theorem dX12_toneOf_21 : decode cX12_toneOf 21 = .ok (.iinc 3 1, 3) := by decide +kernel
theorem dX12_toneOf_24 : decode cX12_toneOf 24 = .ok (.goto (-22), 3) := by decide +kernel
theorem dX12_toneOf_27 : decode cX12_toneOf 27 = .ok (.iload_n 3, 1) := by decide +kernel
theorem dX12_toneOf_28 : decode cX12_toneOf 28 = .ok (.ireturn, 1) := by decide +kernel
theorem dX12_tone_0 : decode cX12_tone 0 = .ok (.iload_n 1, 1) := by decide +kernel
theorem dX12_tone_1 : decode cX12_tone 1 = .ok (.invokestatic 82, 3) := by decide +kernel
theorem dX12_tone_4 : decode cX12_tone 4 = .ok (.ifCond .eq 31, 3) := by decide +kernel
theorem dX12_tone_7 : decode cX12_tone 7 = .ok (.iload_n 2, 1) := by decide +kernel
theorem dX12_tone_8 : decode cX12_tone 8 = .ok (.i2l, 1) := by decide +kernel
theorem dX12_tone_9 : decode cX12_tone 9 = .ok (.lconst 0, 1) := by decide +kernel
theorem dX12_tone_10 : decode cX12_tone 10 = .ok (.aload_n 0, 1) := by decide +kernel
theorem dX12_tone_11 : decode cX12_tone 11 = .ok (.getfield 7, 3) := by decide +kernel
theorem dX12_tone_14 : decode cX12_tone 14 = .ok (.iconst 2, 1) := by decide +kernel
theorem dX12_tone_15 : decode cX12_tone 15 = .ok (.iload_n 1, 1) := by decide +kernel
theorem dX12_tone_16 : decode cX12_tone 16 = .ok (.iadd, 1) := by decide +kernel
theorem dX12_tone_17 : decode cX12_tone 17 = .ok (.iaload, 1) := by decide +kernel
theorem dX12_tone_18 : decode cX12_tone 18 = .ok (.iconst 1, 1) := by decide +kernel
theorem dX12_tone_19 : decode cX12_tone 19 = .ok (.isub, 1) := by decide +kernel
theorem dX12_tone_20 : decode cX12_tone 20 = .ok (.i2l, 1) := by decide +kernel
theorem dX12_tone_21 : decode cX12_tone 21 = .ok (.invokestatic 78, 3) := by decide +kernel
theorem dX12_tone_24 : decode cX12_tone 24 = .ok (.ifCond .eq 11, 3) := by decide +kernel
theorem dX12_tone_27 : decode cX12_tone 27 = .ok (.aload_n 0, 1) := by decide +kernel
theorem dX12_tone_28 : decode cX12_tone 28 = .ok (.iload_n 1, 1) := by decide +kernel
theorem dX12_tone_29 : decode cX12_tone 29 = .ok (.invokevirtual 295, 3) := by decide +kernel
theorem dX12_tone_32 : decode cX12_tone 32 = .ok (.ifCond .ne 5, 3) := by decide +kernel
theorem dX12_tone_35 : decode cX12_tone 35 = .ok (.iconst (-1), 1) := by decide +kernel
theorem dX12_tone_36 : decode cX12_tone 36 = .ok (.ireturn, 1) := by decide +kernel
theorem dX12_tone_37 : decode cX12_tone 37 = .ok (.aload_n 0, 1) := by decide +kernel
theorem dX12_tone_38 : decode cX12_tone 38 = .ok (.invokevirtual 256, 3) := by decide +kernel
theorem dX12_tone_41 : decode cX12_tone 41 = .ok (.aload_n 0, 1) := by decide +kernel
theorem dX12_tone_42 : decode cX12_tone 42 = .ok (.iload_n 1, 1) := by decide +kernel
theorem dX12_tone_43 : decode cX12_tone 43 = .ok (.aload_n 0, 1) := by decide +kernel
theorem dX12_tone_44 : decode cX12_tone 44 = .ok (.getfield 7, 3) := by decide +kernel
theorem dX12_tone_47 : decode cX12_tone 47 = .ok (.bipush 8, 2) := by decide +kernel
theorem dX12_tone_49 : decode cX12_tone 49 = .ok (.iload_n 1, 1) := by decide +kernel
theorem dX12_tone_50 : decode cX12_tone 50 = .ok (.iadd, 1) := by decide +kernel
theorem dX12_tone_51 : decode cX12_tone 51 = .ok (.iaload, 1) := by decide +kernel
theorem dX12_tone_52 : decode cX12_tone 52 = .ok (.invokevirtual 259, 3) := by decide +kernel
theorem dX12_tone_55 : decode cX12_tone 55 = .ok (.ifCond .eq 12, 3) := by decide +kernel
theorem dX12_tone_58 : decode cX12_tone 58 = .ok (.aload_n 0, 1) := by decide +kernel
theorem dX12_tone_59 : decode cX12_tone 59 = .ok (.iload_n 1, 1) := by decide +kernel
theorem dX12_tone_60 : decode cX12_tone 60 = .ok (.iload_n 2, 1) := by decide +kernel
theorem dX12_tone_61 : decode cX12_tone 61 = .ok (.invokevirtual 301, 3) := by decide +kernel
theorem dX12_tone_64 : decode cX12_tone 64 = .ok (.goto 4, 3) := by decide +kernel
theorem dX12_tone_67 : decode cX12_tone 67 = .ok (.iconst (-1), 1) := by decide +kernel
theorem dX12_tone_68 : decode cX12_tone 68 = .ok (.ireturn, 1) := by decide +kernel
theorem dX12_seen_0 : decode cX12_seen 0 = .ok (.iload_n 2, 1) := by decide +kernel
theorem dX12_seen_1 : decode cX12_seen 1 = .ok (.iconst (-1), 1) := by decide +kernel
theorem dX12_seen_2 : decode cX12_seen 2 = .ok (.if_icmp .ne 9, 3) := by decide +kernel
theorem dX12_seen_5 : decode cX12_seen 5 = .ok (.ldc_w 304, 3) := by decide +kernel
theorem dX12_seen_8 : decode cX12_seen 8 = .ok (.goto 6, 3) := by decide +kernel
theorem dX12_seen_11 : decode cX12_seen 11 = .ok (.sipush 400, 3) := by decide +kernel
theorem dX12_seen_14 : decode cX12_seen 14 = .ok (.istore 5, 2) := by decide +kernel
theorem dX12_seen_16 : decode cX12_seen 16 = .ok (.iload_n 1, 1) := by decide +kernel
theorem dX12_seen_17 : decode cX12_seen 17 = .ok (.invokestatic 82, 3) := by decide +kernel
theorem dX12_seen_20 : decode cX12_seen 20 = .ok (.ifCond .eq 55, 3) := by decide +kernel
theorem dX12_seen_23 : decode cX12_seen 23 = .ok (.iload_n 2, 1) := by decide +kernel
theorem dX12_seen_24 : decode cX12_seen 24 = .ok (.i2l, 1) := by decide +kernel
theorem dX12_seen_25 : decode cX12_seen 25 = .ok (.ldc2_w 265, 3) := by decide +kernel
theorem dX12_seen_28 : decode cX12_seen 28 = .ok (.ldc2_w 212, 3) := by decide +kernel
theorem dX12_seen_31 : decode cX12_seen 31 = .ok (.invokestatic 78, 3) := by decide +kernel
theorem dX12_seen_34 : decode cX12_seen 34 = .ok (.ifCond .eq 41, 3) := by decide +kernel
theorem dX12_seen_37 : decode cX12_seen 37 = .ok (.iload_n 3, 1) := by decide +kernel
theorem dX12_seen_38 : decode cX12_seen 38 = .ok (.i2l, 1) := by decide +kernel
theorem dX12_seen_39 : decode cX12_seen 39 = .ok (.lconst 0, 1) := by decide +kernel
theorem dX12_seen_40 : decode cX12_seen 40 = .ok (.iload 5, 2) := by decide +kernel
theorem dX12_seen_42 : decode cX12_seen 42 = .ok (.i2l, 1) := by decide +kernel
theorem dX12_seen_43 : decode cX12_seen 43 = .ok (.invokestatic 78, 3) := by decide +kernel
theorem dX12_seen_46 : decode cX12_seen 46 = .ok (.ifCond .eq 29, 3) := by decide +kernel
theorem dX12_seen_49 : decode cX12_seen 49 = .ok (.iload 4, 2) := by decide +kernel
theorem dX12_seen_51 : decode cX12_seen 51 = .ok (.i2l, 1) := by decide +kernel
theorem dX12_seen_52 : decode cX12_seen 52 = .ok (.iload_n 3, 1) := by decide +kernel
theorem dX12_seen_53 : decode cX12_seen 53 = .ok (.i2l, 1) := by decide +kernel
theorem dX12_seen_54 : decode cX12_seen 54 = .ok (.iload 5, 2) := by decide +kernel
theorem dX12_seen_56 : decode cX12_seen 56 = .ok (.i2l, 1) := by decide +kernel
theorem dX12_seen_57 : decode cX12_seen 57 = .ok (.invokestatic 78, 3) := by decide +kernel
theorem dX12_seen_60 : decode cX12_seen 60 = .ok (.ifCond .eq 15, 3) := by decide +kernel
theorem dX12_seen_63 : decode cX12_seen 63 = .ok (.aload_n 0, 1) := by decide +kernel
theorem dX12_seen_64 : decode cX12_seen 64 = .ok (.getfield 7, 3) := by decide +kernel
theorem dX12_seen_67 : decode cX12_seen 67 = .ok (.bipush 6, 2) := by decide +kernel
theorem dX12_seen_69 : decode cX12_seen 69 = .ok (.iaload, 1) := by decide +kernel
theorem dX12_seen_70 : decode cX12_seen 70 = .ok (.bipush 20, 2) := by decide +kernel
theorem dX12_seen_72 : decode cX12_seen 72 = .ok (.if_icmp .ne 5, 3) := by decide +kernel
theorem dX12_seen_75 : decode cX12_seen 75 = .ok (.iconst (-1), 1) := by decide +kernel
theorem dX12_seen_76 : decode cX12_seen 76 = .ok (.ireturn, 1) := by decide +kernel
theorem dX12_seen_77 : decode cX12_seen 77 = .ok (.sipush 1400, 3) := by decide +kernel
theorem dX12_seen_80 : decode cX12_seen 80 = .ok (.iconst 4, 1) := by decide +kernel
theorem dX12_seen_81 : decode cX12_seen 81 = .ok (.aload_n 0, 1) := by decide +kernel
theorem dX12_seen_82 : decode cX12_seen 82 = .ok (.getfield 7, 3) := by decide +kernel
theorem dX12_seen_85 : decode cX12_seen 85 = .ok (.bipush 6, 2) := by decide +kernel
theorem dX12_seen_87 : decode cX12_seen 87 = .ok (.iaload, 1) := by decide +kernel
theorem dX12_seen_88 : decode cX12_seen 88 = .ok (.imul, 1) := by decide +kernel
theorem dX12_seen_89 : decode cX12_seen 89 = .ok (.iadd, 1) := by decide +kernel
theorem dX12_seen_90 : decode cX12_seen 90 = .ok (.istore 6, 2) := by decide +kernel
theorem dX12_seen_92 : decode cX12_seen 92 = .ok (.aload_n 0, 1) := by decide +kernel
theorem dX12_seen_93 : decode cX12_seen 93 = .ok (.getfield 7, 3) := by decide +kernel
theorem dX12_seen_96 : decode cX12_seen 96 = .ok (.iload 6, 2) := by decide +kernel
theorem dX12_seen_98 : decode cX12_seen 98 = .ok (.iload_n 1, 1) := by decide +kernel
theorem dX12_seen_99 : decode cX12_seen 99 = .ok (.iastore, 1) := by decide +kernel
theorem dX12_seen_100 : decode cX12_seen 100 = .ok (.aload_n 0, 1) := by decide +kernel
theorem dX12_seen_101 : decode cX12_seen 101 = .ok (.getfield 7, 3) := by decide +kernel
theorem dX12_seen_104 : decode cX12_seen 104 = .ok (.iload 6, 2) := by decide +kernel
theorem dX12_seen_106 : decode cX12_seen 106 = .ok (.iconst 1, 1) := by decide +kernel
theorem dX12_seen_107 : decode cX12_seen 107 = .ok (.iadd, 1) := by decide +kernel
theorem dX12_seen_108 : decode cX12_seen 108 = .ok (.iload_n 2, 1) := by decide +kernel
theorem dX12_seen_109 : decode cX12_seen 109 = .ok (.iastore, 1) := by decide +kernel
theorem dX12_seen_110 : decode cX12_seen 110 = .ok (.aload_n 0, 1) := by decide +kernel
theorem dX12_seen_111 : decode cX12_seen 111 = .ok (.getfield 7, 3) := by decide +kernel
theorem dX12_seen_114 : decode cX12_seen 114 = .ok (.iload 6, 2) := by decide +kernel
theorem dX12_seen_116 : decode cX12_seen 116 = .ok (.iconst 2, 1) := by decide +kernel
theorem dX12_seen_117 : decode cX12_seen 117 = .ok (.iadd, 1) := by decide +kernel
theorem dX12_seen_118 : decode cX12_seen 118 = .ok (.iload_n 3, 1) := by decide +kernel
theorem dX12_seen_119 : decode cX12_seen 119 = .ok (.iastore, 1) := by decide +kernel
theorem dX12_seen_120 : decode cX12_seen 120 = .ok (.aload_n 0, 1) := by decide +kernel
theorem dX12_seen_121 : decode cX12_seen 121 = .ok (.getfield 7, 3) := by decide +kernel
theorem dX12_seen_124 : decode cX12_seen 124 = .ok (.iload 6, 2) := by decide +kernel
theorem dX12_seen_126 : decode cX12_seen 126 = .ok (.iconst 3, 1) := by decide +kernel
theorem dX12_seen_127 : decode cX12_seen 127 = .ok (.iadd, 1) := by decide +kernel
theorem dX12_seen_128 : decode cX12_seen 128 = .ok (.iload 4, 2) := by decide +kernel
theorem dX12_seen_130 : decode cX12_seen 130 = .ok (.iastore, 1) := by decide +kernel
theorem dX12_seen_131 : decode cX12_seen 131 = .ok (.aload_n 0, 1) := by decide +kernel
theorem dX12_seen_132 : decode cX12_seen 132 = .ok (.getfield 7, 3) := by decide +kernel
theorem dX12_seen_135 : decode cX12_seen 135 = .ok (.bipush 6, 2) := by decide +kernel
theorem dX12_seen_137 : decode cX12_seen 137 = .ok (.dup2, 1) := by decide +kernel
theorem dX12_seen_138 : decode cX12_seen 138 = .ok (.iaload, 1) := by decide +kernel
theorem dX12_seen_139 : decode cX12_seen 139 = .ok (.iconst 1, 1) := by decide +kernel
theorem dX12_seen_140 : decode cX12_seen 140 = .ok (.iadd, 1) := by decide +kernel
theorem dX12_seen_141 : decode cX12_seen 141 = .ok (.iastore, 1) := by decide +kernel
theorem dX12_seen_142 : decode cX12_seen 142 = .ok (.aload_n 0, 1) := by decide +kernel
theorem dX12_seen_143 : decode cX12_seen 143 = .ok (.getfield 7, 3) := by decide +kernel
theorem dX12_seen_146 : decode cX12_seen 146 = .ok (.bipush 6, 2) := by decide +kernel
theorem dX12_seen_148 : decode cX12_seen 148 = .ok (.iaload, 1) := by decide +kernel
theorem dX12_seen_149 : decode cX12_seen 149 = .ok (.ireturn, 1) := by decide +kernel
theorem dX12_agrees_0 : decode cX12_agrees 0 = .ok (.aload_n 0, 1) := by decide +kernel
theorem dX12_agrees_1 : decode cX12_agrees 1 = .ok (.getfield 7, 3) := by decide +kernel
theorem dX12_agrees_4 : decode cX12_agrees 4 = .ok (.iload_n 2, 1) := by decide +kernel
theorem dX12_agrees_5 : decode cX12_agrees 5 = .ok (.iconst 1, 1) := by decide +kernel
theorem dX12_agrees_6 : decode cX12_agrees 6 = .ok (.iadd, 1) := by decide +kernel
theorem dX12_agrees_7 : decode cX12_agrees 7 = .ok (.iaload, 1) := by decide +kernel
theorem dX12_agrees_8 : decode cX12_agrees 8 = .ok (.istore_n 3, 1) := by decide +kernel
theorem dX12_agrees_9 : decode cX12_agrees 9 = .ok (.iload_n 3, 1) := by decide +kernel
theorem dX12_agrees_10 : decode cX12_agrees 10 = .ok (.iconst (-1), 1) := by decide +kernel
theorem dX12_agrees_11 : decode cX12_agrees 11 = .ok (.if_icmp .ne 63, 3) := by decide +kernel
theorem dX12_agrees_14 : decode cX12_agrees 14 = .ok (.aload_n 0, 1) := by decide +kernel
theorem dX12_agrees_15 : decode cX12_agrees 15 = .ok (.getfield 7, 3) := by decide +kernel
theorem dX12_agrees_18 : decode cX12_agrees 18 = .ok (.iconst 2, 1) := by decide +kernel
theorem dX12_agrees_19 : decode cX12_agrees 19 = .ok (.iload_n 1, 1) := by decide +kernel
theorem dX12_agrees_20 : decode cX12_agrees 20 = .ok (.iadd, 1) := by decide +kernel
theorem dX12_agrees_21 : decode cX12_agrees 21 = .ok (.iaload, 1) := by decide +kernel
theorem dX12_agrees_22 : decode cX12_agrees 22 = .ok (.iconst 1, 1) := by decide +kernel
theorem dX12_agrees_23 : decode cX12_agrees 23 = .ok (.isub, 1) := by decide +kernel
theorem dX12_agrees_24 : decode cX12_agrees 24 = .ok (.istore 4, 2) := by decide +kernel
theorem dX12_agrees_26 : decode cX12_agrees 26 = .ok (.aload_n 0, 1) := by decide +kernel
theorem dX12_agrees_27 : decode cX12_agrees 27 = .ok (.iload_n 1, 1) := by decide +kernel
theorem dX12_agrees_28 : decode cX12_agrees 28 = .ok (.iload 4, 2) := by decide +kernel
theorem dX12_agrees_30 : decode cX12_agrees 30 = .ok (.iconst 0, 1) := by decide +kernel
theorem dX12_agrees_31 : decode cX12_agrees 31 = .ok (.invokevirtual 250, 3) := by decide +kernel
theorem dX12_agrees_34 : decode cX12_agrees 34 = .ok (.aload_n 0, 1) := by decide +kernel
theorem dX12_agrees_35 : decode cX12_agrees 35 = .ok (.getfield 7, 3) := by decide +kernel
theorem dX12_agrees_38 : decode cX12_agrees 38 = .ok (.iload_n 2, 1) := by decide +kernel
theorem dX12_agrees_39 : decode cX12_agrees 39 = .ok (.iconst 3, 1) := by decide +kernel
theorem dX12_agrees_40 : decode cX12_agrees 40 = .ok (.iadd, 1) := by decide +kernel
theorem dX12_agrees_41 : decode cX12_agrees 41 = .ok (.iaload, 1) := by decide +kernel
theorem dX12_agrees_42 : decode cX12_agrees 42 = .ok (.i2l, 1) := by decide +kernel
theorem dX12_agrees_43 : decode cX12_agrees 43 = .ok (.lcmp, 1) := by decide +kernel
theorem dX12_agrees_44 : decode cX12_agrees 44 = .ok (.ifCond .gt 28, 3) := by decide +kernel
theorem dX12_agrees_47 : decode cX12_agrees 47 = .ok (.aload_n 0, 1) := by decide +kernel
theorem dX12_agrees_48 : decode cX12_agrees 48 = .ok (.iload_n 1, 1) := by decide +kernel
theorem dX12_agrees_49 : decode cX12_agrees 49 = .ok (.iload 4, 2) := by decide +kernel
theorem dX12_agrees_51 : decode cX12_agrees 51 = .ok (.iconst 1, 1) := by decide +kernel
theorem dX12_agrees_52 : decode cX12_agrees 52 = .ok (.invokevirtual 250, 3) := by decide +kernel
theorem dX12_agrees_55 : decode cX12_agrees 55 = .ok (.aload_n 0, 1) := by decide +kernel
theorem dX12_agrees_56 : decode cX12_agrees 56 = .ok (.getfield 7, 3) := by decide +kernel
theorem dX12_agrees_59 : decode cX12_agrees 59 = .ok (.iload_n 2, 1) := by decide +kernel
theorem dX12_agrees_60 : decode cX12_agrees 60 = .ok (.iconst 2, 1) := by decide +kernel
theorem dX12_agrees_61 : decode cX12_agrees 61 = .ok (.iadd, 1) := by decide +kernel
theorem dX12_agrees_62 : decode cX12_agrees 62 = .ok (.iaload, 1) := by decide +kernel
theorem dX12_agrees_63 : decode cX12_agrees 63 = .ok (.i2l, 1) := by decide +kernel
theorem dX12_agrees_64 : decode cX12_agrees 64 = .ok (.lcmp, 1) := by decide +kernel
theorem dX12_agrees_65 : decode cX12_agrees 65 = .ok (.ifCond .lt 7, 3) := by decide +kernel
theorem dX12_agrees_68 : decode cX12_agrees 68 = .ok (.iconst 1, 1) := by decide +kernel
theorem dX12_agrees_69 : decode cX12_agrees 69 = .ok (.goto 4, 3) := by decide +kernel
theorem dX12_agrees_72 : decode cX12_agrees 72 = .ok (.iconst 0, 1) := by decide +kernel
theorem dX12_agrees_73 : decode cX12_agrees 73 = .ok (.ireturn, 1) := by decide +kernel
theorem dX12_agrees_74 : decode cX12_agrees 74 = .ok (.aload_n 0, 1) := by decide +kernel
theorem dX12_agrees_75 : decode cX12_agrees 75 = .ok (.iload_n 1, 1) := by decide +kernel
theorem dX12_agrees_76 : decode cX12_agrees 76 = .ok (.invokevirtual 295, 3) := by decide +kernel
theorem dX12_agrees_79 : decode cX12_agrees 79 = .ok (.ifCond .eq 50, 3) := by decide +kernel
theorem dX12_agrees_82 : decode cX12_agrees 82 = .ok (.iload_n 3, 1) := by decide +kernel
theorem dX12_agrees_83 : decode cX12_agrees 83 = .ok (.aload_n 0, 1) := by decide +kernel
theorem dX12_agrees_84 : decode cX12_agrees 84 = .ok (.getfield 7, 3) := by decide +kernel
theorem dX12_agrees_87 : decode cX12_agrees 87 = .ok (.iconst 2, 1) := by decide +kernel
theorem dX12_agrees_88 : decode cX12_agrees 88 = .ok (.iload_n 1, 1) := by decide +kernel
theorem dX12_agrees_89 : decode cX12_agrees 89 = .ok (.iadd, 1) := by decide +kernel
theorem dX12_agrees_90 : decode cX12_agrees 90 = .ok (.iaload, 1) := by decide +kernel
theorem dX12_agrees_91 : decode cX12_agrees 91 = .ok (.if_icmp .ge 38, 3) := by decide +kernel
theorem dX12_agrees_94 : decode cX12_agrees 94 = .ok (.aload_n 0, 1) := by decide +kernel
theorem dX12_agrees_95 : decode cX12_agrees 95 = .ok (.iload_n 1, 1) := by decide +kernel
theorem dX12_agrees_96 : decode cX12_agrees 96 = .ok (.iload_n 3, 1) := by decide +kernel
theorem dX12_agrees_97 : decode cX12_agrees 97 = .ok (.invokevirtual 301, 3) := by decide +kernel
theorem dX12_agrees_100 : decode cX12_agrees 100 = .ok (.i2l, 1) := by decide +kernel
theorem dX12_agrees_101 : decode cX12_agrees 101 = .ok (.aload_n 0, 1) := by decide +kernel
theorem dX12_agrees_102 : decode cX12_agrees 102 = .ok (.getfield 7, 3) := by decide +kernel
theorem dX12_agrees_105 : decode cX12_agrees 105 = .ok (.iload_n 2, 1) := by decide +kernel
theorem dX12_agrees_106 : decode cX12_agrees 106 = .ok (.iconst 2, 1) := by decide +kernel
theorem dX12_agrees_107 : decode cX12_agrees 107 = .ok (.iadd, 1) := by decide +kernel
theorem dX12_agrees_108 : decode cX12_agrees 108 = .ok (.iaload, 1) := by decide +kernel
theorem dX12_agrees_109 : decode cX12_agrees 109 = .ok (.i2l, 1) := by decide +kernel
theorem dX12_agrees_110 : decode cX12_agrees 110 = .ok (.aload_n 0, 1) := by decide +kernel
theorem dX12_agrees_111 : decode cX12_agrees 111 = .ok (.getfield 7, 3) := by decide +kernel
theorem dX12_agrees_114 : decode cX12_agrees 114 = .ok (.iload_n 2, 1) := by decide +kernel
theorem dX12_agrees_115 : decode cX12_agrees 115 = .ok (.iconst 3, 1) := by decide +kernel
theorem dX12_agrees_116 : decode cX12_agrees 116 = .ok (.iadd, 1) := by decide +kernel
theorem dX12_agrees_117 : decode cX12_agrees 117 = .ok (.iaload, 1) := by decide +kernel
theorem dX12_agrees_118 : decode cX12_agrees 118 = .ok (.i2l, 1) := by decide +kernel
theorem dX12_agrees_119 : decode cX12_agrees 119 = .ok (.invokestatic 78, 3) := by decide +kernel
theorem dX12_agrees_122 : decode cX12_agrees 122 = .ok (.ifCond .eq 7, 3) := by decide +kernel
theorem dX12_agrees_125 : decode cX12_agrees 125 = .ok (.iconst 1, 1) := by decide +kernel
theorem dX12_agrees_126 : decode cX12_agrees 126 = .ok (.goto 4, 3) := by decide +kernel
theorem dX12_agrees_129 : decode cX12_agrees 129 = .ok (.iconst 0, 1) := by decide +kernel
theorem dX12_agrees_130 : decode cX12_agrees 130 = .ok (.ireturn, 1) := by decide +kernel
theorem dX12_fit_0 : decode cX12_fit 0 = .ok (.aload_n 0, 1) := by decide +kernel
theorem dX12_fit_1 : decode cX12_fit 1 = .ok (.iload_n 1, 1) := by decide +kernel
theorem dX12_fit_2 : decode cX12_fit 2 = .ok (.iload_n 2, 1) := by decide +kernel
theorem dX12_fit_3 : decode cX12_fit 3 = .ok (.invokevirtual 259, 3) := by decide +kernel
theorem dX12_fit_6 : decode cX12_fit 6 = .ok (.istore_n 3, 1) := by decide +kernel
theorem dX12_fit_7 : decode cX12_fit 7 = .ok (.iconst 0, 1) := by decide +kernel
theorem dX12_fit_8 : decode cX12_fit 8 = .ok (.istore 4, 2) := by decide +kernel
theorem dX12_fit_10 : decode cX12_fit 10 = .ok (.iload 4, 2) := by decide +kernel
theorem dX12_fit_12 : decode cX12_fit 12 = .ok (.bipush 20, 2) := by decide +kernel
theorem dX12_fit_14 : decode cX12_fit 14 = .ok (.if_icmp .ge 62, 3) := by decide +kernel
theorem dX12_fit_17 : decode cX12_fit 17 = .ok (.iload_n 3, 1) := by decide +kernel
theorem dX12_fit_18 : decode cX12_fit 18 = .ok (.ifCond .eq 58, 3) := by decide +kernel
theorem dX12_fit_21 : decode cX12_fit 21 = .ok (.iload 4, 2) := by decide +kernel
theorem dX12_fit_23 : decode cX12_fit 23 = .ok (.aload_n 0, 1) := by decide +kernel
theorem dX12_fit_24 : decode cX12_fit 24 = .ok (.getfield 7, 3) := by decide +kernel
theorem dX12_fit_27 : decode cX12_fit 27 = .ok (.bipush 6, 2) := by decide +kernel
theorem dX12_fit_29 : decode cX12_fit 29 = .ok (.iaload, 1) := by decide +kernel
theorem dX12_fit_30 : decode cX12_fit 30 = .ok (.if_icmp .ge 46, 3) := by decide +kernel
theorem dX12_fit_33 : decode cX12_fit 33 = .ok (.sipush 1400, 3) := by decide +kernel
theorem dX12_fit_36 : decode cX12_fit 36 = .ok (.iconst 4, 1) := by decide +kernel
theorem dX12_fit_37 : decode cX12_fit 37 = .ok (.iload 4, 2) := by decide +kernel
theorem dX12_fit_39 : decode cX12_fit 39 = .ok (.imul, 1) := by decide +kernel
theorem dX12_fit_40 : decode cX12_fit 40 = .ok (.iadd, 1) := by decide +kernel
theorem dX12_fit_41 : decode cX12_fit 41 = .ok (.istore 5, 2) := by decide +kernel
theorem dX12_fit_43 : decode cX12_fit 43 = .ok (.aload_n 0, 1) := by decide +kernel
theorem dX12_fit_44 : decode cX12_fit 44 = .ok (.getfield 7, 3) := by decide +kernel
theorem dX12_fit_47 : decode cX12_fit 47 = .ok (.iload 5, 2) := by decide +kernel
theorem dX12_fit_49 : decode cX12_fit 49 = .ok (.iaload, 1) := by decide +kernel
theorem dX12_fit_50 : decode cX12_fit 50 = .ok (.iload_n 1, 1) := by decide +kernel
theorem dX12_fit_51 : decode cX12_fit 51 = .ok (.if_icmp .ne 13, 3) := by decide +kernel
theorem dX12_fit_54 : decode cX12_fit 54 = .ok (.aload_n 0, 1) := by decide +kernel
theorem dX12_fit_55 : decode cX12_fit 55 = .ok (.iload_n 1, 1) := by decide +kernel
theorem dX12_fit_56 : decode cX12_fit 56 = .ok (.iload 5, 2) := by decide +kernel
theorem dX12_fit_58 : decode cX12_fit 58 = .ok (.invokevirtual 305, 3) := by decide +kernel
theorem dX12_fit_61 : decode cX12_fit 61 = .ok (.ifCond .eq 7, 3) := by decide +kernel
theorem dX12_fit_64 : decode cX12_fit 64 = .ok (.iconst 1, 1) := by decide +kernel
theorem dX12_fit_65 : decode cX12_fit 65 = .ok (.goto 4, 3) := by decide +kernel
theorem dX12_fit_68 : decode cX12_fit 68 = .ok (.iconst 0, 1) := by decide +kernel
theorem dX12_fit_69 : decode cX12_fit 69 = .ok (.istore_n 3, 1) := by decide +kernel
theorem dX12_fit_70 : decode cX12_fit 70 = .ok (.iinc 4 1, 3) := by decide +kernel
theorem dX12_fit_73 : decode cX12_fit 73 = .ok (.goto (-63), 3) := by decide +kernel
theorem dX12_fit_76 : decode cX12_fit 76 = .ok (.iload_n 3, 1) := by decide +kernel
theorem dX12_fit_77 : decode cX12_fit 77 = .ok (.ireturn, 1) := by decide +kernel
theorem dX12_fits_0 : decode cX12_fits 0 = .ok (.iload_n 1, 1) := by decide +kernel
theorem dX12_fits_1 : decode cX12_fits 1 = .ok (.invokestatic 82, 3) := by decide +kernel
theorem dX12_fits_4 : decode cX12_fits 4 = .ok (.ifCond .eq 8, 3) := by decide +kernel
theorem dX12_fits_7 : decode cX12_fits 7 = .ok (.iload_n 2, 1) := by decide +kernel
theorem dX12_fits_8 : decode cX12_fits 8 = .ok (.iconst (-1), 1) := by decide +kernel
theorem dX12_fits_9 : decode cX12_fits 9 = .ok (.if_icmp .ge 5, 3) := by decide +kernel
theorem dX12_fits_12 : decode cX12_fits 12 = .ok (.iconst (-1), 1) := by decide +kernel
theorem dX12_fits_13 : decode cX12_fits 13 = .ok (.ireturn, 1) := by decide +kernel
theorem dX12_fits_14 : decode cX12_fits 14 = .ok (.aload_n 0, 1) := by decide +kernel
theorem dX12_fits_15 : decode cX12_fits 15 = .ok (.invokevirtual 256, 3) := by decide +kernel
theorem dX12_fits_18 : decode cX12_fits 18 = .ok (.iconst 0, 1) := by decide +kernel
theorem dX12_fits_19 : decode cX12_fits 19 = .ok (.istore_n 3, 1) := by decide +kernel
theorem dX12_fits_20 : decode cX12_fits 20 = .ok (.iconst 1, 1) := by decide +kernel
theorem dX12_fits_21 : decode cX12_fits 21 = .ok (.istore 4, 2) := by decide +kernel
theorem dX12_fits_23 : decode cX12_fits 23 = .ok (.iload 4, 2) := by decide +kernel
theorem dX12_fits_25 : decode cX12_fits 25 = .ok (.sipush 200, 3) := by decide +kernel
theorem dX12_fits_28 : decode cX12_fits 28 = .ok (.if_icmp .gt 30, 3) := by decide +kernel
theorem dX12_fits_31 : decode cX12_fits 31 = .ok (.aload_n 0, 1) := by decide +kernel
theorem dX12_fits_32 : decode cX12_fits 32 = .ok (.iload_n 1, 1) := by decide +kernel
theorem dX12_fits_33 : decode cX12_fits 33 = .ok (.iload 4, 2) := by decide +kernel
theorem dX12_fits_35 : decode cX12_fits 35 = .ok (.invokevirtual 308, 3) := by decide +kernel
theorem dX12_fits_38 : decode cX12_fits 38 = .ok (.ifCond .eq 14, 3) := by decide +kernel
theorem dX12_fits_41 : decode cX12_fits 41 = .ok (.iload_n 3, 1) := by decide +kernel
theorem dX12_fits_42 : decode cX12_fits 42 = .ok (.iload_n 2, 1) := by decide +kernel
theorem dX12_fits_43 : decode cX12_fits 43 = .ok (.if_icmp .ne 6, 3) := by decide +kernel
theorem dX12_fits_46 : decode cX12_fits 46 = .ok (.iload 4, 2) := by decide +kernel
theorem dX12_fits_48 : decode cX12_fits 48 = .ok (.ireturn, 1) := by decide +kernel
theorem dX12_fits_49 : decode cX12_fits 49 = .ok (.iinc 3 1, 3) := by decide +kernel
theorem dX12_fits_52 : decode cX12_fits 52 = .ok (.iinc 4 1, 3) := by decide +kernel
theorem dX12_fits_55 : decode cX12_fits 55 = .ok (.goto (-32), 3) := by decide +kernel
theorem dX12_fits_58 : decode cX12_fits 58 = .ok (.iload_n 2, 1) := by decide +kernel
theorem dX12_fits_59 : decode cX12_fits 59 = .ok (.iconst (-1), 1) := by decide +kernel
theorem dX12_fits_60 : decode cX12_fits 60 = .ok (.if_icmp .ne 7, 3) := by decide +kernel
theorem dX12_fits_63 : decode cX12_fits 63 = .ok (.iload_n 3, 1) := by decide +kernel
theorem dX12_fits_64 : decode cX12_fits 64 = .ok (.goto 4, 3) := by decide +kernel
theorem dX12_fits_67 : decode cX12_fits 67 = .ok (.iconst (-1), 1) := by decide +kernel
theorem dX12_fits_68 : decode cX12_fits 68 = .ok (.ireturn, 1) := by decide +kernel
theorem dX12_image_0 : decode cX12_image 0 = .ok (.aload_n 0, 1) := by decide +kernel
theorem dX12_image_1 : decode cX12_image 1 = .ok (.iconst 1, 1) := by decide +kernel
theorem dX12_image_2 : decode cX12_image 2 = .ok (.invokevirtual 74, 3) := by decide +kernel
theorem dX12_image_5 : decode cX12_image 5 = .ok (.aload_n 0, 1) := by decide +kernel
theorem dX12_image_6 : decode cX12_image 6 = .ok (.getfield 7, 3) := by decide +kernel
theorem dX12_image_9 : decode cX12_image 9 = .ok (.iconst 0, 1) := by decide +kernel
theorem dX12_image_10 : decode cX12_image 10 = .ok (.iaload, 1) := by decide +kernel
theorem dX12_image_11 : decode cX12_image 11 = .ok (.ireturn, 1) := by decide +kernel
theorem dX12_back_0 : decode cX12_back 0 = .ok (.aload_n 0, 1) := by decide +kernel
theorem dX12_back_1 : decode cX12_back 1 = .ok (.iconst 0, 1) := by decide +kernel
theorem dX12_back_2 : decode cX12_back 2 = .ok (.invokevirtual 74, 3) := by decide +kernel
theorem dX12_back_5 : decode cX12_back 5 = .ok (.aload_n 0, 1) := by decide +kernel
theorem dX12_back_6 : decode cX12_back 6 = .ok (.getfield 7, 3) := by decide +kernel
theorem dX12_back_9 : decode cX12_back 9 = .ok (.iconst 0, 1) := by decide +kernel
theorem dX12_back_10 : decode cX12_back 10 = .ok (.iaload, 1) := by decide +kernel
theorem dX12_back_11 : decode cX12_back 11 = .ok (.ireturn, 1) := by decide +kernel
theorem dX12_about_0 : decode cX12_about 0 = .ok (.iload_n 1, 1) := by decide +kernel
theorem dX12_about_1 : decode cX12_about 1 = .ok (.tableswitch 198 0 21 #[103, 110, 117, 124, 131, 138, 145, 153, 158, 198, 166, 174, 198, 198, 198, 198, 198, 198, 198, 198, 182, 190], 103) := by decide +kernel
theorem dX12_about_104 : decode cX12_about 104 = .ok (.aload_n 0, 1) := by decide +kernel
theorem dX12_about_105 : decode cX12_about 105 = .ok (.getfield 7, 3) := by decide +kernel
theorem dX12_about_108 : decode cX12_about 108 = .ok (.iconst 0, 1) := by decide +kernel
theorem dX12_about_109 : decode cX12_about 109 = .ok (.iaload, 1) := by decide +kernel
theorem dX12_about_110 : decode cX12_about 110 = .ok (.ireturn, 1) := by decide +kernel
theorem dX12_about_111 : decode cX12_about 111 = .ok (.aload_n 0, 1) := by decide +kernel
theorem dX12_about_112 : decode cX12_about 112 = .ok (.getfield 7, 3) := by decide +kernel
theorem dX12_about_115 : decode cX12_about 115 = .ok (.iconst 1, 1) := by decide +kernel
theorem dX12_about_116 : decode cX12_about 116 = .ok (.iaload, 1) := by decide +kernel
theorem dX12_about_117 : decode cX12_about 117 = .ok (.ireturn, 1) := by decide +kernel
theorem dX12_about_118 : decode cX12_about 118 = .ok (.aload_n 0, 1) := by decide +kernel
theorem dX12_about_119 : decode cX12_about 119 = .ok (.getfield 7, 3) := by decide +kernel
theorem dX12_about_122 : decode cX12_about 122 = .ok (.iconst 2, 1) := by decide +kernel
theorem dX12_about_123 : decode cX12_about 123 = .ok (.iaload, 1) := by decide +kernel
theorem dX12_about_124 : decode cX12_about 124 = .ok (.ireturn, 1) := by decide +kernel
theorem dX12_about_125 : decode cX12_about 125 = .ok (.aload_n 0, 1) := by decide +kernel
theorem dX12_about_126 : decode cX12_about 126 = .ok (.getfield 7, 3) := by decide +kernel
theorem dX12_about_129 : decode cX12_about 129 = .ok (.iconst 3, 1) := by decide +kernel
theorem dX12_about_130 : decode cX12_about 130 = .ok (.iaload, 1) := by decide +kernel
theorem dX12_about_131 : decode cX12_about 131 = .ok (.ireturn, 1) := by decide +kernel
theorem dX12_about_132 : decode cX12_about 132 = .ok (.aload_n 0, 1) := by decide +kernel
theorem dX12_about_133 : decode cX12_about 133 = .ok (.getfield 7, 3) := by decide +kernel
theorem dX12_about_136 : decode cX12_about 136 = .ok (.iconst 4, 1) := by decide +kernel
theorem dX12_about_137 : decode cX12_about 137 = .ok (.iaload, 1) := by decide +kernel
theorem dX12_about_138 : decode cX12_about 138 = .ok (.ireturn, 1) := by decide +kernel
theorem dX12_about_139 : decode cX12_about 139 = .ok (.aload_n 0, 1) := by decide +kernel
theorem dX12_about_140 : decode cX12_about 140 = .ok (.getfield 7, 3) := by decide +kernel
theorem dX12_about_143 : decode cX12_about 143 = .ok (.iconst 5, 1) := by decide +kernel
theorem dX12_about_144 : decode cX12_about 144 = .ok (.iaload, 1) := by decide +kernel
theorem dX12_about_145 : decode cX12_about 145 = .ok (.ireturn, 1) := by decide +kernel
theorem dX12_about_146 : decode cX12_about 146 = .ok (.aload_n 0, 1) := by decide +kernel
theorem dX12_about_147 : decode cX12_about 147 = .ok (.getfield 7, 3) := by decide +kernel
theorem dX12_about_150 : decode cX12_about 150 = .ok (.bipush 6, 2) := by decide +kernel
theorem dX12_about_152 : decode cX12_about 152 = .ok (.iaload, 1) := by decide +kernel
theorem dX12_about_153 : decode cX12_about 153 = .ok (.ireturn, 1) := by decide +kernel
theorem dX12_about_154 : decode cX12_about 154 = .ok (.aload_n 0, 1) := by decide +kernel
theorem dX12_about_155 : decode cX12_about 155 = .ok (.getfield 86, 3) := by decide +kernel
theorem dX12_about_158 : decode cX12_about 158 = .ok (.ireturn, 1) := by decide +kernel
theorem dX12_about_159 : decode cX12_about 159 = .ok (.aload_n 0, 1) := by decide +kernel
theorem dX12_about_160 : decode cX12_about 160 = .ok (.getfield 7, 3) := by decide +kernel
theorem dX12_about_163 : decode cX12_about 163 = .ok (.bipush 7, 2) := by decide +kernel
theorem dX12_about_165 : decode cX12_about 165 = .ok (.iaload, 1) := by decide +kernel
theorem dX12_about_166 : decode cX12_about 166 = .ok (.ireturn, 1) := by decide +kernel
theorem dX12_about_167 : decode cX12_about 167 = .ok (.aload_n 0, 1) := by decide +kernel
theorem dX12_about_168 : decode cX12_about 168 = .ok (.getfield 7, 3) := by decide +kernel
theorem dX12_about_171 : decode cX12_about 171 = .ok (.bipush 8, 2) := by decide +kernel
theorem dX12_about_173 : decode cX12_about 173 = .ok (.iaload, 1) := by decide +kernel
theorem dX12_about_174 : decode cX12_about 174 = .ok (.ireturn, 1) := by decide +kernel
theorem dX12_about_175 : decode cX12_about 175 = .ok (.aload_n 0, 1) := by decide +kernel
theorem dX12_about_176 : decode cX12_about 176 = .ok (.getfield 7, 3) := by decide +kernel
theorem dX12_about_179 : decode cX12_about 179 = .ok (.bipush 9, 2) := by decide +kernel
theorem dX12_about_181 : decode cX12_about 181 = .ok (.iaload, 1) := by decide +kernel
theorem dX12_about_182 : decode cX12_about 182 = .ok (.ireturn, 1) := by decide +kernel
theorem dX12_about_183 : decode cX12_about 183 = .ok (.aload_n 0, 1) := by decide +kernel
theorem dX12_about_184 : decode cX12_about 184 = .ok (.getfield 7, 3) := by decide +kernel
theorem dX12_about_187 : decode cX12_about 187 = .ok (.bipush 10, 2) := by decide +kernel
theorem dX12_about_189 : decode cX12_about 189 = .ok (.iaload, 1) := by decide +kernel
theorem dX12_about_190 : decode cX12_about 190 = .ok (.ireturn, 1) := by decide +kernel
theorem dX12_about_191 : decode cX12_about 191 = .ok (.aload_n 0, 1) := by decide +kernel
theorem dX12_about_192 : decode cX12_about 192 = .ok (.getfield 7, 3) := by decide +kernel
theorem dX12_about_195 : decode cX12_about 195 = .ok (.bipush 11, 2) := by decide +kernel
theorem dX12_about_197 : decode cX12_about 197 = .ok (.iaload, 1) := by decide +kernel
theorem dX12_about_198 : decode cX12_about 198 = .ok (.ireturn, 1) := by decide +kernel
theorem dX12_about_199 : decode cX12_about 199 = .ok (.iconst (-1), 1) := by decide +kernel
theorem dX12_about_200 : decode cX12_about 200 = .ok (.ireturn, 1) := by decide +kernel
end
section
theorem dX0_init_0 : decode cX0_init 0 = .ok (.aload_n 0, 1) := by decide +kernel
theorem dX0_init_1 : decode cX0_init 1 = .ok (.invokespecial 3, 3) := by decide +kernel
theorem dX0_init_4 : decode cX0_init 4 = .ok (.aload_n 0, 1) := by decide +kernel
theorem dX0_init_5 : decode cX0_init 5 = .ok (.bipush 9, 2) := by decide +kernel
theorem dX0_init_7 : decode cX0_init 7 = .ok (.newarray .int, 2) := by decide +kernel
theorem dX0_init_9 : decode cX0_init 9 = .ok (.putfield 9, 3) := by decide +kernel
theorem dX0_init_12 : decode cX0_init 12 = .ok (.aload_n 0, 1) := by decide +kernel
theorem dX0_init_13 : decode cX0_init 13 = .ok (.bipush 9, 2) := by decide +kernel
theorem dX0_init_15 : decode cX0_init 15 = .ok (.newarray .int, 2) := by decide +kernel
theorem dX0_init_17 : decode cX0_init 17 = .ok (.putfield 15, 3) := by decide +kernel
theorem dX0_init_20 : decode cX0_init 20 = .ok (.return_, 1) := by decide +kernel
theorem dX0_find_0 : decode cX0_find 0 = .ok (.aload_n 0, 1) := by decide +kernel
theorem dX0_find_1 : decode cX0_find 1 = .ok (.iconst 0, 1) := by decide +kernel
theorem dX0_find_2 : decode cX0_find 2 = .ok (.putfield 18, 3) := by decide +kernel
theorem dX0_find_5 : decode cX0_find 5 = .ok (.aload_n 1, 1) := by decide +kernel
theorem dX0_find_6 : decode cX0_find 6 = .ok (.getfield 22, 3) := by decide +kernel
theorem dX0_find_9 : decode cX0_find 9 = .ok (.iconst 0, 1) := by decide +kernel
theorem dX0_find_10 : decode cX0_find 10 = .ok (.iaload, 1) := by decide +kernel
theorem dX0_find_11 : decode cX0_find 11 = .ok (.istore_n 3, 1) := by decide +kernel
theorem dX0_find_12 : decode cX0_find 12 = .ok (.iload_n 3, 1) := by decide +kernel
theorem dX0_find_13 : decode cX0_find 13 = .ok (.ifCond .ne 15, 3) := by decide +kernel
theorem dX0_find_16 : decode cX0_find 16 = .ok (.iload_n 2, 1) := by decide +kernel
theorem dX0_find_17 : decode cX0_find 17 = .ok (.ifCond .ne 11, 3) := by decide +kernel
theorem dX0_find_20 : decode cX0_find 20 = .ok (.aload_n 0, 1) := by decide +kernel
theorem dX0_find_21 : decode cX0_find 21 = .ok (.iconst 0, 1) := by decide +kernel
theorem dX0_find_22 : decode cX0_find 22 = .ok (.sipush 999, 3) := by decide +kernel
theorem dX0_find_25 : decode cX0_find 25 = .ok (.invokevirtual 27, 3) := by decide +kernel
theorem dX0_find_28 : decode cX0_find 28 = .ok (.iconst 0, 1) := by decide +kernel
theorem dX0_find_29 : decode cX0_find 29 = .ok (.istore 4, 2) := by decide +kernel
theorem dX0_find_31 : decode cX0_find 31 = .ok (.iload 4, 2) := by decide +kernel
theorem dX0_find_33 : decode cX0_find 33 = .ok (.iload_n 3, 1) := by decide +kernel
theorem dX0_find_34 : decode cX0_find 34 = .ok (.if_icmp .gt 113, 3) := by decide +kernel
theorem dX0_find_37 : decode cX0_find 37 = .ok (.iload_n 3, 1) := by decide +kernel
theorem dX0_find_38 : decode cX0_find 38 = .ok (.ifCond .le 109, 3) := by decide +kernel
theorem dX0_find_41 : decode cX0_find 41 = .ok (.aload_n 0, 1) := by decide +kernel
theorem dX0_find_42 : decode cX0_find 42 = .ok (.iload 4, 2) := by decide +kernel
theorem dX0_find_44 : decode cX0_find 44 = .ok (.ifCond .ne 7, 3) := by decide +kernel
theorem dX0_find_47 : decode cX0_find 47 = .ok (.lconst 0, 1) := by decide +kernel
theorem dX0_find_48 : decode cX0_find 48 = .ok (.goto 14, 3) := by decide +kernel
theorem dX0_find_51 : decode cX0_find 51 = .ok (.aload_n 1, 1) := by decide +kernel
theorem dX0_find_52 : decode cX0_find 52 = .ok (.iconst 0, 1) := by decide +kernel
theorem dX0_find_53 : decode cX0_find 53 = .ok (.iload 4, 2) := by decide +kernel
theorem dX0_find_55 : decode cX0_find 55 = .ok (.iconst 1, 1) := by decide +kernel
theorem dX0_find_56 : decode cX0_find 56 = .ok (.isub, 1) := by decide +kernel
theorem dX0_find_57 : decode cX0_find 57 = .ok (.iconst 0, 1) := by decide +kernel
theorem dX0_find_58 : decode cX0_find 58 = .ok (.invokevirtual 31, 3) := by decide +kernel
theorem dX0_find_61 : decode cX0_find 61 = .ok (.i2l, 1) := by decide +kernel
theorem dX0_find_62 : decode cX0_find 62 = .ok (.putfield 35, 3) := by decide +kernel
theorem dX0_find_65 : decode cX0_find 65 = .ok (.aload_n 0, 1) := by decide +kernel
theorem dX0_find_66 : decode cX0_find 66 = .ok (.iload 4, 2) := by decide +kernel
theorem dX0_find_68 : decode cX0_find 68 = .ok (.iload_n 3, 1) := by decide +kernel
theorem dX0_find_69 : decode cX0_find 69 = .ok (.if_icmp .ne 9, 3) := by decide +kernel
theorem dX0_find_72 : decode cX0_find 72 = .ok (.ldc2_w 39, 3) := by decide +kernel
theorem dX0_find_75 : decode cX0_find 75 = .ok (.goto 14, 3) := by decide +kernel
theorem dX0_find_78 : decode cX0_find 78 = .ok (.aload_n 1, 1) := by decide +kernel
theorem dX0_find_79 : decode cX0_find 79 = .ok (.iconst 0, 1) := by decide +kernel
theorem dX0_find_80 : decode cX0_find 80 = .ok (.iload 4, 2) := by decide +kernel
theorem dX0_find_82 : decode cX0_find 82 = .ok (.iconst 0, 1) := by decide +kernel
theorem dX0_find_83 : decode cX0_find 83 = .ok (.invokevirtual 31, 3) := by decide +kernel
theorem dX0_find_86 : decode cX0_find 86 = .ok (.iconst 1, 1) := by decide +kernel
theorem dX0_find_87 : decode cX0_find 87 = .ok (.isub, 1) := by decide +kernel
theorem dX0_find_88 : decode cX0_find 88 = .ok (.i2l, 1) := by decide +kernel
theorem dX0_find_89 : decode cX0_find 89 = .ok (.putfield 41, 3) := by decide +kernel
theorem dX0_find_92 : decode cX0_find 92 = .ok (.aload_n 0, 1) := by decide +kernel
theorem dX0_find_93 : decode cX0_find 93 = .ok (.aload_n 1, 1) := by decide +kernel
theorem dX0_find_94 : decode cX0_find 94 = .ok (.iload 4, 2) := by decide +kernel
theorem dX0_find_96 : decode cX0_find 96 = .ok (.iconst 1, 1) := by decide +kernel
theorem dX0_find_97 : decode cX0_find 97 = .ok (.isub, 1) := by decide +kernel
theorem dX0_find_98 : decode cX0_find 98 = .ok (.iconst 0, 1) := by decide +kernel
theorem dX0_find_99 : decode cX0_find 99 = .ok (.invokestatic 44, 3) := by decide +kernel
theorem dX0_find_102 : decode cX0_find 102 = .ok (.iload 4, 2) := by decide +kernel
theorem dX0_find_104 : decode cX0_find 104 = .ok (.iload_n 3, 1) := by decide +kernel
theorem dX0_find_105 : decode cX0_find 105 = .ok (.iconst 1, 1) := by decide +kernel
theorem dX0_find_106 : decode cX0_find 106 = .ok (.isub, 1) := by decide +kernel
theorem dX0_find_107 : decode cX0_find 107 = .ok (.invokestatic 50, 3) := by decide +kernel
theorem dX0_find_110 : decode cX0_find 110 = .ok (.iload_n 2, 1) := by decide +kernel
theorem dX0_find_111 : decode cX0_find 111 = .ok (.i2l, 1) := by decide +kernel
theorem dX0_find_112 : decode cX0_find 112 = .ok (.invokevirtual 53, 3) := by decide +kernel
theorem dX0_find_115 : decode cX0_find 115 = .ok (.aload_n 0, 1) := by decide +kernel
theorem dX0_find_116 : decode cX0_find 116 = .ok (.getfield 35, 3) := by decide +kernel
theorem dX0_find_119 : decode cX0_find 119 = .ok (.aload_n 0, 1) := by decide +kernel
theorem dX0_find_120 : decode cX0_find 120 = .ok (.getfield 41, 3) := by decide +kernel
theorem dX0_find_123 : decode cX0_find 123 = .ok (.lcmp, 1) := by decide +kernel
theorem dX0_find_124 : decode cX0_find 124 = .ok (.ifCond .gt 17, 3) := by decide +kernel
theorem dX0_find_127 : decode cX0_find 127 = .ok (.aload_n 0, 1) := by decide +kernel
theorem dX0_find_128 : decode cX0_find 128 = .ok (.aload_n 0, 1) := by decide +kernel
theorem dX0_find_129 : decode cX0_find 129 = .ok (.getfield 35, 3) := by decide +kernel
theorem dX0_find_132 : decode cX0_find 132 = .ok (.l2i, 1) := by decide +kernel
theorem dX0_find_133 : decode cX0_find 133 = .ok (.aload_n 0, 1) := by decide +kernel
theorem dX0_find_134 : decode cX0_find 134 = .ok (.getfield 41, 3) := by decide +kernel
theorem dX0_find_137 : decode cX0_find 137 = .ok (.l2i, 1) := by decide +kernel
theorem dX0_find_138 : decode cX0_find 138 = .ok (.invokevirtual 27, 3) := by decide +kernel
theorem dX0_find_141 : decode cX0_find 141 = .ok (.iinc 4 1, 3) := by decide +kernel
theorem dX0_find_144 : decode cX0_find 144 = .ok (.goto (-113), 3) := by decide +kernel
theorem dX0_find_147 : decode cX0_find 147 = .ok (.return_, 1) := by decide +kernel
theorem dX0_narrowToNeed_0 : decode cX0_narrowToNeed 0 = .ok (.aload_n 1, 1) := by decide +kernel
theorem dX0_narrowToNeed_1 : decode cX0_narrowToNeed 1 = .ok (.iconst 0, 1) := by decide +kernel
theorem dX0_narrowToNeed_2 : decode cX0_narrowToNeed 2 = .ok (.iload_n 2, 1) := by decide +kernel
theorem dX0_narrowToNeed_3 : decode cX0_narrowToNeed 3 = .ok (.iconst 0, 1) := by decide +kernel
theorem dX0_narrowToNeed_4 : decode cX0_narrowToNeed 4 = .ok (.invokevirtual 31, 3) := by decide +kernel
theorem dX0_narrowToNeed_7 : decode cX0_narrowToNeed 7 = .ok (.istore 6, 2) := by decide +kernel
theorem dX0_narrowToNeed_9 : decode cX0_narrowToNeed 9 = .ok (.aload_n 1, 1) := by decide +kernel
theorem dX0_narrowToNeed_10 : decode cX0_narrowToNeed 10 = .ok (.iconst 0, 1) := by decide +kernel
theorem dX0_narrowToNeed_11 : decode cX0_narrowToNeed 11 = .ok (.iload_n 3, 1) := by decide +kernel
theorem dX0_narrowToNeed_12 : decode cX0_narrowToNeed 12 = .ok (.iconst 0, 1) := by decide +kernel
theorem dX0_narrowToNeed_13 : decode cX0_narrowToNeed 13 = .ok (.invokevirtual 31, 3) := by decide +kernel
theorem dX0_narrowToNeed_16 : decode cX0_narrowToNeed 16 = .ok (.iload 6, 2) := by decide +kernel
theorem dX0_narrowToNeed_18 : decode cX0_narrowToNeed 18 = .ok (.isub, 1) := by decide +kernel
theorem dX0_narrowToNeed_19 : decode cX0_narrowToNeed 19 = .ok (.iconst 1, 1) := by decide +kernel
theorem dX0_narrowToNeed_20 : decode cX0_narrowToNeed 20 = .ok (.invokestatic 44, 3) := by decide +kernel
theorem dX0_narrowToNeed_23 : decode cX0_narrowToNeed 23 = .ok (.i2l, 1) := by decide +kernel
theorem dX0_narrowToNeed_24 : decode cX0_narrowToNeed 24 = .ok (.lstore 7, 2) := by decide +kernel
theorem dX0_narrowToNeed_26 : decode cX0_narrowToNeed 26 = .ok (.aload_n 1, 1) := by decide +kernel
theorem dX0_narrowToNeed_27 : decode cX0_narrowToNeed 27 = .ok (.iconst 0, 1) := by decide +kernel
theorem dX0_narrowToNeed_28 : decode cX0_narrowToNeed 28 = .ok (.iload_n 2, 1) := by decide +kernel
theorem dX0_narrowToNeed_29 : decode cX0_narrowToNeed 29 = .ok (.iconst 1, 1) := by decide +kernel
theorem dX0_narrowToNeed_30 : decode cX0_narrowToNeed 30 = .ok (.invokevirtual 31, 3) := by decide +kernel
theorem dX0_narrowToNeed_33 : decode cX0_narrowToNeed 33 = .ok (.istore 9, 2) := by decide +kernel
theorem dX0_narrowToNeed_35 : decode cX0_narrowToNeed 35 = .ok (.aload_n 1, 1) := by decide +kernel
theorem dX0_narrowToNeed_36 : decode cX0_narrowToNeed 36 = .ok (.iconst 0, 1) := by decide +kernel
theorem dX0_narrowToNeed_37 : decode cX0_narrowToNeed 37 = .ok (.iload_n 2, 1) := by decide +kernel
theorem dX0_narrowToNeed_38 : decode cX0_narrowToNeed 38 = .ok (.iconst 2, 1) := by decide +kernel
theorem dX0_narrowToNeed_39 : decode cX0_narrowToNeed 39 = .ok (.invokevirtual 31, 3) := by decide +kernel
theorem dX0_narrowToNeed_42 : decode cX0_narrowToNeed 42 = .ok (.istore 10, 2) := by decide +kernel
theorem dX0_narrowToNeed_44 : decode cX0_narrowToNeed 44 = .ok (.aload_n 0, 1) := by decide +kernel
theorem dX0_narrowToNeed_45 : decode cX0_narrowToNeed 45 = .ok (.iload 6, 2) := by decide +kernel
theorem dX0_narrowToNeed_47 : decode cX0_narrowToNeed 47 = .ok (.aload_n 1, 1) := by decide +kernel
theorem dX0_narrowToNeed_48 : decode cX0_narrowToNeed 48 = .ok (.iconst 0, 1) := by decide +kernel
theorem dX0_narrowToNeed_49 : decode cX0_narrowToNeed 49 = .ok (.iload_n 3, 1) := by decide +kernel
theorem dX0_narrowToNeed_50 : decode cX0_narrowToNeed 50 = .ok (.iconst 1, 1) := by decide +kernel
theorem dX0_narrowToNeed_51 : decode cX0_narrowToNeed 51 = .ok (.invokevirtual 31, 3) := by decide +kernel
theorem dX0_narrowToNeed_54 : decode cX0_narrowToNeed 54 = .ok (.iload 9, 2) := by decide +kernel
theorem dX0_narrowToNeed_56 : decode cX0_narrowToNeed 56 = .ok (.isub, 1) := by decide +kernel
theorem dX0_narrowToNeed_57 : decode cX0_narrowToNeed 57 = .ok (.lload 4, 2) := by decide +kernel
theorem dX0_narrowToNeed_59 : decode cX0_narrowToNeed 59 = .ok (.lconst 1, 1) := by decide +kernel
theorem dX0_narrowToNeed_60 : decode cX0_narrowToNeed 60 = .ok (.ladd, 1) := by decide +kernel
theorem dX0_narrowToNeed_61 : decode cX0_narrowToNeed 61 = .ok (.iload 9, 2) := by decide +kernel
theorem dX0_narrowToNeed_63 : decode cX0_narrowToNeed 63 = .ok (.i2l, 1) := by decide +kernel
theorem dX0_narrowToNeed_64 : decode cX0_narrowToNeed 64 = .ok (.lsub, 1) := by decide +kernel
theorem dX0_narrowToNeed_65 : decode cX0_narrowToNeed 65 = .ok (.lload 7, 2) := by decide +kernel
theorem dX0_narrowToNeed_67 : decode cX0_narrowToNeed 67 = .ok (.lmul, 1) := by decide +kernel
theorem dX0_narrowToNeed_68 : decode cX0_narrowToNeed 68 = .ok (.invokevirtual 57, 3) := by decide +kernel
theorem dX0_narrowToNeed_71 : decode cX0_narrowToNeed 71 = .ok (.aload_n 0, 1) := by decide +kernel
theorem dX0_narrowToNeed_72 : decode cX0_narrowToNeed 72 = .ok (.iload 6, 2) := by decide +kernel
theorem dX0_narrowToNeed_74 : decode cX0_narrowToNeed 74 = .ok (.iload 10, 2) := by decide +kernel
theorem dX0_narrowToNeed_76 : decode cX0_narrowToNeed 76 = .ok (.aload_n 1, 1) := by decide +kernel
theorem dX0_narrowToNeed_77 : decode cX0_narrowToNeed 77 = .ok (.iconst 0, 1) := by decide +kernel
theorem dX0_narrowToNeed_78 : decode cX0_narrowToNeed 78 = .ok (.iload_n 3, 1) := by decide +kernel
theorem dX0_narrowToNeed_79 : decode cX0_narrowToNeed 79 = .ok (.iconst 2, 1) := by decide +kernel
theorem dX0_narrowToNeed_80 : decode cX0_narrowToNeed 80 = .ok (.invokevirtual 31, 3) := by decide +kernel
theorem dX0_narrowToNeed_83 : decode cX0_narrowToNeed 83 = .ok (.isub, 1) := by decide +kernel
theorem dX0_narrowToNeed_84 : decode cX0_narrowToNeed 84 = .ok (.iload 10, 2) := by decide +kernel
theorem dX0_narrowToNeed_86 : decode cX0_narrowToNeed 86 = .ok (.iconst 1, 1) := by decide +kernel
theorem dX0_narrowToNeed_87 : decode cX0_narrowToNeed 87 = .ok (.iadd, 1) := by decide +kernel
theorem dX0_narrowToNeed_88 : decode cX0_narrowToNeed 88 = .ok (.i2l, 1) := by decide +kernel
theorem dX0_narrowToNeed_89 : decode cX0_narrowToNeed 89 = .ok (.lload 4, 2) := by decide +kernel
theorem dX0_narrowToNeed_91 : decode cX0_narrowToNeed 91 = .ok (.lsub, 1) := by decide +kernel
theorem dX0_narrowToNeed_92 : decode cX0_narrowToNeed 92 = .ok (.lload 7, 2) := by decide +kernel
theorem dX0_narrowToNeed_94 : decode cX0_narrowToNeed 94 = .ok (.lmul, 1) := by decide +kernel
theorem dX0_narrowToNeed_95 : decode cX0_narrowToNeed 95 = .ok (.invokevirtual 57, 3) := by decide +kernel
theorem dX0_narrowToNeed_98 : decode cX0_narrowToNeed 98 = .ok (.return_, 1) := by decide +kernel
theorem dX0_narrow_0 : decode cX0_narrow 0 = .ok (.iload_n 2, 1) := by decide +kernel
theorem dX0_narrow_1 : decode cX0_narrow 1 = .ok (.ifCond .le 28, 3) := by decide +kernel
theorem dX0_narrow_4 : decode cX0_narrow 4 = .ok (.aload_n 0, 1) := by decide +kernel
theorem dX0_narrow_5 : decode cX0_narrow 5 = .ok (.aload_n 0, 1) := by decide +kernel
theorem dX0_narrow_6 : decode cX0_narrow 6 = .ok (.getfield 41, 3) := by decide +kernel
theorem dX0_narrow_9 : decode cX0_narrow 9 = .ok (.iload_n 1, 1) := by decide +kernel
theorem dX0_narrow_10 : decode cX0_narrow 10 = .ok (.i2l, 1) := by decide +kernel
theorem dX0_narrow_11 : decode cX0_narrow 11 = .ok (.lload_n 3, 1) := by decide +kernel
theorem dX0_narrow_12 : decode cX0_narrow 12 = .ok (.lconst 1, 1) := by decide +kernel
theorem dX0_narrow_13 : decode cX0_narrow 13 = .ok (.lsub, 1) := by decide +kernel
theorem dX0_narrow_14 : decode cX0_narrow 14 = .ok (.iload_n 2, 1) := by decide +kernel
theorem dX0_narrow_15 : decode cX0_narrow 15 = .ok (.i2l, 1) := by decide +kernel
theorem dX0_narrow_16 : decode cX0_narrow 16 = .ok (.invokestatic 61, 3) := by decide +kernel
theorem dX0_narrow_19 : decode cX0_narrow 19 = .ok (.ladd, 1) := by decide +kernel
theorem dX0_narrow_20 : decode cX0_narrow 20 = .ok (.invokestatic 65, 3) := by decide +kernel
theorem dX0_narrow_23 : decode cX0_narrow 23 = .ok (.putfield 41, 3) := by decide +kernel
theorem dX0_narrow_26 : decode cX0_narrow 26 = .ok (.goto 50, 3) := by decide +kernel
theorem dX0_narrow_29 : decode cX0_narrow 29 = .ok (.iload_n 2, 1) := by decide +kernel
theorem dX0_narrow_30 : decode cX0_narrow 30 = .ok (.ifCond .ge 30, 3) := by decide +kernel
theorem dX0_narrow_33 : decode cX0_narrow 33 = .ok (.aload_n 0, 1) := by decide +kernel
theorem dX0_narrow_34 : decode cX0_narrow 34 = .ok (.aload_n 0, 1) := by decide +kernel
theorem dX0_narrow_35 : decode cX0_narrow 35 = .ok (.getfield 35, 3) := by decide +kernel
theorem dX0_narrow_38 : decode cX0_narrow 38 = .ok (.iload_n 1, 1) := by decide +kernel
theorem dX0_narrow_39 : decode cX0_narrow 39 = .ok (.i2l, 1) := by decide +kernel
theorem dX0_narrow_40 : decode cX0_narrow 40 = .ok (.lload_n 3, 1) := by decide +kernel
theorem dX0_narrow_41 : decode cX0_narrow 41 = .ok (.lneg, 1) := by decide +kernel
theorem dX0_narrow_42 : decode cX0_narrow 42 = .ok (.iload_n 2, 1) := by decide +kernel
theorem dX0_narrow_43 : decode cX0_narrow 43 = .ok (.i2l, 1) := by decide +kernel
theorem dX0_narrow_44 : decode cX0_narrow 44 = .ok (.lneg, 1) := by decide +kernel
theorem dX0_narrow_45 : decode cX0_narrow 45 = .ok (.invokestatic 61, 3) := by decide +kernel
theorem dX0_narrow_48 : decode cX0_narrow 48 = .ok (.ladd, 1) := by decide +kernel
theorem dX0_narrow_49 : decode cX0_narrow 49 = .ok (.lconst 1, 1) := by decide +kernel
theorem dX0_narrow_50 : decode cX0_narrow 50 = .ok (.ladd, 1) := by decide +kernel
theorem dX0_narrow_51 : decode cX0_narrow 51 = .ok (.invokestatic 67, 3) := by decide +kernel
theorem dX0_narrow_54 : decode cX0_narrow 54 = .ok (.putfield 35, 3) := by decide +kernel
theorem dX0_narrow_57 : decode cX0_narrow 57 = .ok (.goto 19, 3) := by decide +kernel
theorem dX0_narrow_60 : decode cX0_narrow 60 = .ok (.lload_n 3, 1) := by decide +kernel
theorem dX0_narrow_61 : decode cX0_narrow 61 = .ok (.lconst 0, 1) := by decide +kernel
theorem dX0_narrow_62 : decode cX0_narrow 62 = .ok (.lcmp, 1) := by decide +kernel
theorem dX0_narrow_63 : decode cX0_narrow 63 = .ok (.ifCond .gt 13, 3) := by decide +kernel
theorem dX0_narrow_66 : decode cX0_narrow 66 = .ok (.aload_n 0, 1) := by decide +kernel
theorem dX0_narrow_67 : decode cX0_narrow 67 = .ok (.aload_n 0, 1) := by decide +kernel
theorem dX0_narrow_68 : decode cX0_narrow 68 = .ok (.getfield 35, 3) := by decide +kernel
theorem dX0_narrow_71 : decode cX0_narrow 71 = .ok (.lconst 1, 1) := by decide +kernel
theorem dX0_narrow_72 : decode cX0_narrow 72 = .ok (.lsub, 1) := by decide +kernel
theorem dX0_narrow_73 : decode cX0_narrow 73 = .ok (.putfield 41, 3) := by decide +kernel
theorem dX0_narrow_76 : decode cX0_narrow 76 = .ok (.return_, 1) := by decide +kernel
theorem dX0_keep_0 : decode cX0_keep 0 = .ok (.aload_n 0, 1) := by decide +kernel
theorem dX0_keep_1 : decode cX0_keep 1 = .ok (.getfield 18, 3) := by decide +kernel
theorem dX0_keep_4 : decode cX0_keep 4 = .ok (.ifCond .le 35, 3) := by decide +kernel
theorem dX0_keep_7 : decode cX0_keep 7 = .ok (.aload_n 0, 1) := by decide +kernel
theorem dX0_keep_8 : decode cX0_keep 8 = .ok (.getfield 15, 3) := by decide +kernel
theorem dX0_keep_11 : decode cX0_keep 11 = .ok (.aload_n 0, 1) := by decide +kernel
theorem dX0_keep_12 : decode cX0_keep 12 = .ok (.getfield 18, 3) := by decide +kernel
theorem dX0_keep_15 : decode cX0_keep 15 = .ok (.iconst 1, 1) := by decide +kernel
theorem dX0_keep_16 : decode cX0_keep 16 = .ok (.isub, 1) := by decide +kernel
theorem dX0_keep_17 : decode cX0_keep 17 = .ok (.iaload, 1) := by decide +kernel
theorem dX0_keep_18 : decode cX0_keep 18 = .ok (.iconst 1, 1) := by decide +kernel
theorem dX0_keep_19 : decode cX0_keep 19 = .ok (.iadd, 1) := by decide +kernel
theorem dX0_keep_20 : decode cX0_keep 20 = .ok (.iload_n 1, 1) := by decide +kernel
theorem dX0_keep_21 : decode cX0_keep 21 = .ok (.if_icmp .ne 18, 3) := by decide +kernel
theorem dX0_keep_24 : decode cX0_keep 24 = .ok (.aload_n 0, 1) := by decide +kernel
theorem dX0_keep_25 : decode cX0_keep 25 = .ok (.getfield 15, 3) := by decide +kernel
theorem dX0_keep_28 : decode cX0_keep 28 = .ok (.aload_n 0, 1) := by decide +kernel
theorem dX0_keep_29 : decode cX0_keep 29 = .ok (.getfield 18, 3) := by decide +kernel
theorem dX0_keep_32 : decode cX0_keep 32 = .ok (.iconst 1, 1) := by decide +kernel
theorem dX0_keep_33 : decode cX0_keep 33 = .ok (.isub, 1) := by decide +kernel
theorem dX0_keep_34 : decode cX0_keep 34 = .ok (.iload_n 2, 1) := by decide +kernel
theorem dX0_keep_35 : decode cX0_keep 35 = .ok (.iastore, 1) := by decide +kernel
theorem dX0_keep_36 : decode cX0_keep 36 = .ok (.goto 45, 3) := by decide +kernel
theorem dX0_keep_39 : decode cX0_keep 39 = .ok (.aload_n 0, 1) := by decide +kernel
theorem dX0_keep_40 : decode cX0_keep 40 = .ok (.getfield 18, 3) := by decide +kernel
theorem dX0_keep_43 : decode cX0_keep 43 = .ok (.aload_n 0, 1) := by decide +kernel
theorem dX0_keep_44 : decode cX0_keep 44 = .ok (.getfield 9, 3) := by decide +kernel
theorem dX0_keep_47 : decode cX0_keep 47 = .ok (.arraylength, 1) := by decide +kernel
theorem dX0_keep_48 : decode cX0_keep 48 = .ok (.if_icmp .ge 33, 3) := by decide +kernel
theorem dX0_keep_51 : decode cX0_keep 51 = .ok (.aload_n 0, 1) := by decide +kernel
theorem dX0_keep_52 : decode cX0_keep 52 = .ok (.getfield 9, 3) := by decide +kernel
theorem dX0_keep_55 : decode cX0_keep 55 = .ok (.aload_n 0, 1) := by decide +kernel
theorem dX0_keep_56 : decode cX0_keep 56 = .ok (.getfield 18, 3) := by decide +kernel
theorem dX0_keep_59 : decode cX0_keep 59 = .ok (.iload_n 1, 1) := by decide +kernel
theorem dX0_keep_60 : decode cX0_keep 60 = .ok (.iastore, 1) := by decide +kernel
theorem dX0_keep_61 : decode cX0_keep 61 = .ok (.aload_n 0, 1) := by decide +kernel
theorem dX0_keep_62 : decode cX0_keep 62 = .ok (.getfield 15, 3) := by decide +kernel
theorem dX0_keep_65 : decode cX0_keep 65 = .ok (.aload_n 0, 1) := by decide +kernel
theorem dX0_keep_66 : decode cX0_keep 66 = .ok (.getfield 18, 3) := by decide +kernel
theorem dX0_keep_69 : decode cX0_keep 69 = .ok (.iload_n 2, 1) := by decide +kernel
theorem dX0_keep_70 : decode cX0_keep 70 = .ok (.iastore, 1) := by decide +kernel
theorem dX0_keep_71 : decode cX0_keep 71 = .ok (.aload_n 0, 1) := by decide +kernel
theorem dX0_keep_72 : decode cX0_keep 72 = .ok (.dup, 1) := by decide +kernel
theorem dX0_keep_73 : decode cX0_keep 73 = .ok (.getfield 18, 3) := by decide +kernel
theorem dX0_keep_76 : decode cX0_keep 76 = .ok (.iconst 1, 1) := by decide +kernel
theorem dX0_keep_77 : decode cX0_keep 77 = .ok (.iadd, 1) := by decide +kernel
theorem dX0_keep_78 : decode cX0_keep 78 = .ok (.putfield 18, 3) := by decide +kernel
theorem dX0_keep_81 : decode cX0_keep 81 = .ok (.return_, 1) := by decide +kernel
theorem dX1_init_0 : decode cX1_init 0 = .ok (.aload_n 0, 1) := by decide +kernel
theorem dX1_init_1 : decode cX1_init 1 = .ok (.invokespecial 1, 3) := by decide +kernel
theorem dX1_init_4 : decode cX1_init 4 = .ok (.aload_n 0, 1) := by decide +kernel
theorem dX1_init_5 : decode cX1_init 5 = .ok (.sipush 1000, 3) := by decide +kernel
theorem dX1_init_8 : decode cX1_init 8 = .ok (.newarray .int, 2) := by decide +kernel
theorem dX1_init_10 : decode cX1_init 10 = .ok (.putfield 9, 3) := by decide +kernel
theorem dX1_init_13 : decode cX1_init 13 = .ok (.return_, 1) := by decide +kernel
theorem dX2_init_0 : decode cX2_init 0 = .ok (.aload_n 0, 1) := by decide +kernel
theorem dX2_init_1 : decode cX2_init 1 = .ok (.invokespecial 3, 3) := by decide +kernel
theorem dX2_init_4 : decode cX2_init 4 = .ok (.aload_n 0, 1) := by decide +kernel
theorem dX2_init_5 : decode cX2_init 5 = .ok (.bipush 16, 2) := by decide +kernel
theorem dX2_init_7 : decode cX2_init 7 = .ok (.newarray .int, 2) := by decide +kernel
theorem dX2_init_9 : decode cX2_init 9 = .ok (.putfield 9, 3) := by decide +kernel
theorem dX2_init_12 : decode cX2_init 12 = .ok (.aload_n 0, 1) := by decide +kernel
theorem dX2_init_13 : decode cX2_init 13 = .ok (.bipush 16, 2) := by decide +kernel
theorem dX2_init_15 : decode cX2_init 15 = .ok (.newarray .int, 2) := by decide +kernel
theorem dX2_init_17 : decode cX2_init 17 = .ok (.putfield 15, 3) := by decide +kernel
theorem dX2_init_20 : decode cX2_init 20 = .ok (.aload_n 0, 1) := by decide +kernel
theorem dX2_init_21 : decode cX2_init 21 = .ok (.bipush 16, 2) := by decide +kernel
theorem dX2_init_23 : decode cX2_init 23 = .ok (.newarray .int, 2) := by decide +kernel
theorem dX2_init_25 : decode cX2_init 25 = .ok (.putfield 18, 3) := by decide +kernel
theorem dX2_init_28 : decode cX2_init 28 = .ok (.aload_n 0, 1) := by decide +kernel
theorem dX2_init_29 : decode cX2_init 29 = .ok (.bipush 16, 2) := by decide +kernel
theorem dX2_init_31 : decode cX2_init 31 = .ok (.newarray .int, 2) := by decide +kernel
theorem dX2_init_33 : decode cX2_init 33 = .ok (.putfield 21, 3) := by decide +kernel
theorem dX2_init_36 : decode cX2_init 36 = .ok (.aload_n 0, 1) := by decide +kernel
theorem dX2_init_37 : decode cX2_init 37 = .ok (.bipush 16, 2) := by decide +kernel
theorem dX2_init_39 : decode cX2_init 39 = .ok (.newarray .int, 2) := by decide +kernel
theorem dX2_init_41 : decode cX2_init 41 = .ok (.putfield 24, 3) := by decide +kernel
theorem dX2_init_44 : decode cX2_init 44 = .ok (.aload_n 0, 1) := by decide +kernel
theorem dX2_init_45 : decode cX2_init 45 = .ok (.bipush 16, 2) := by decide +kernel
theorem dX2_init_47 : decode cX2_init 47 = .ok (.newarray .int, 2) := by decide +kernel
theorem dX2_init_49 : decode cX2_init 49 = .ok (.putfield 27, 3) := by decide +kernel
theorem dX2_init_52 : decode cX2_init 52 = .ok (.aload_n 0, 1) := by decide +kernel
theorem dX2_init_53 : decode cX2_init 53 = .ok (.bipush 16, 2) := by decide +kernel
theorem dX2_init_55 : decode cX2_init 55 = .ok (.newarray .long, 2) := by decide +kernel
theorem dX2_init_57 : decode cX2_init 57 = .ok (.putfield 30, 3) := by decide +kernel
theorem dX2_init_60 : decode cX2_init 60 = .ok (.aload_n 0, 1) := by decide +kernel
theorem dX2_init_61 : decode cX2_init 61 = .ok (.bipush 16, 2) := by decide +kernel
theorem dX2_init_63 : decode cX2_init 63 = .ok (.newarray .long, 2) := by decide +kernel
theorem dX2_init_65 : decode cX2_init 65 = .ok (.putfield 34, 3) := by decide +kernel
theorem dX2_init_68 : decode cX2_init 68 = .ok (.aload_n 0, 1) := by decide +kernel
theorem dX2_init_69 : decode cX2_init 69 = .ok (.new 37, 3) := by decide +kernel
theorem dX2_init_72 : decode cX2_init 72 = .ok (.dup, 1) := by decide +kernel
theorem dX2_init_73 : decode cX2_init 73 = .ok (.invokespecial 39, 3) := by decide +kernel
theorem dX2_init_76 : decode cX2_init 76 = .ok (.putfield 40, 3) := by decide +kernel
theorem dX2_init_79 : decode cX2_init 79 = .ok (.return_, 1) := by decide +kernel
theorem dX2_settle_0 : decode cX2_settle 0 = .ok (.aload_n 0, 1) := by decide +kernel
theorem dX2_settle_1 : decode cX2_settle 1 = .ok (.aload_n 1, 1) := by decide +kernel
theorem dX2_settle_2 : decode cX2_settle 2 = .ok (.getfield 44, 3) := by decide +kernel
theorem dX2_settle_5 : decode cX2_settle 5 = .ok (.putfield 50, 3) := by decide +kernel
theorem dX2_settle_8 : decode cX2_settle 8 = .ok (.aload_n 0, 1) := by decide +kernel
theorem dX2_settle_9 : decode cX2_settle 9 = .ok (.aload_n 0, 1) := by decide +kernel
theorem dX2_settle_10 : decode cX2_settle 10 = .ok (.getfield 50, 3) := by decide +kernel
theorem dX2_settle_13 : decode cX2_settle 13 = .ok (.ifCond .ne 7, 3) := by decide +kernel
theorem dX2_settle_16 : decode cX2_settle 16 = .ok (.iconst 0, 1) := by decide +kernel
theorem dX2_settle_17 : decode cX2_settle 17 = .ok (.goto 4, 3) := by decide +kernel
theorem dX2_settle_20 : decode cX2_settle 20 = .ok (.iconst 2, 1) := by decide +kernel
theorem dX2_settle_21 : decode cX2_settle 21 = .ok (.putfield 51, 3) := by decide +kernel
theorem dX2_settle_24 : decode cX2_settle 24 = .ok (.iconst 0, 1) := by decide +kernel
theorem dX2_settle_25 : decode cX2_settle 25 = .ok (.istore 4, 2) := by decide +kernel
theorem dX2_settle_27 : decode cX2_settle 27 = .ok (.aload_n 0, 1) := by decide +kernel
theorem dX2_settle_28 : decode cX2_settle 28 = .ok (.getfield 50, 3) := by decide +kernel
theorem dX2_settle_31 : decode cX2_settle 31 = .ok (.iconst 1, 1) := by decide +kernel
theorem dX2_settle_32 : decode cX2_settle 32 = .ok (.isub, 1) := by decide +kernel
theorem dX2_settle_33 : decode cX2_settle 33 = .ok (.istore 5, 2) := by decide +kernel
theorem dX2_settle_35 : decode cX2_settle 35 = .ok (.iload 5, 2) := by decide +kernel
theorem dX2_settle_37 : decode cX2_settle 37 = .ok (.ifCond .lt 184, 3) := by decide +kernel
theorem dX2_settle_40 : decode cX2_settle 40 = .ok (.aload_n 0, 1) := by decide +kernel
theorem dX2_settle_41 : decode cX2_settle 41 = .ok (.getfield 9, 3) := by decide +kernel
theorem dX2_settle_44 : decode cX2_settle 44 = .ok (.iload 5, 2) := by decide +kernel
theorem dX2_settle_46 : decode cX2_settle 46 = .ok (.aload_n 1, 1) := by decide +kernel
theorem dX2_settle_47 : decode cX2_settle 47 = .ok (.iload 5, 2) := by decide +kernel
theorem dX2_settle_49 : decode cX2_settle 49 = .ok (.aload_n 2, 1) := by decide +kernel
theorem dX2_settle_50 : decode cX2_settle 50 = .ok (.invokevirtual 54, 3) := by decide +kernel
theorem dX2_settle_53 : decode cX2_settle 53 = .ok (.iastore, 1) := by decide +kernel
theorem dX2_settle_54 : decode cX2_settle 54 = .ok (.aload_n 0, 1) := by decide +kernel
theorem dX2_settle_55 : decode cX2_settle 55 = .ok (.getfield 15, 3) := by decide +kernel
theorem dX2_settle_58 : decode cX2_settle 58 = .ok (.iload 5, 2) := by decide +kernel
theorem dX2_settle_60 : decode cX2_settle 60 = .ok (.iload 4, 2) := by decide +kernel
theorem dX2_settle_62 : decode cX2_settle 62 = .ok (.aload_n 0, 1) := by decide +kernel
theorem dX2_settle_63 : decode cX2_settle 63 = .ok (.getfield 9, 3) := by decide +kernel
theorem dX2_settle_66 : decode cX2_settle 66 = .ok (.iload 5, 2) := by decide +kernel
theorem dX2_settle_68 : decode cX2_settle 68 = .ok (.iaload, 1) := by decide +kernel
theorem dX2_settle_69 : decode cX2_settle 69 = .ok (.iconst 2, 1) := by decide +kernel
theorem dX2_settle_70 : decode cX2_settle 70 = .ok (.idiv, 1) := by decide +kernel
theorem dX2_settle_71 : decode cX2_settle 71 = .ok (.iadd, 1) := by decide +kernel
theorem dX2_settle_72 : decode cX2_settle 72 = .ok (.iload_n 3, 1) := by decide +kernel
theorem dX2_settle_73 : decode cX2_settle 73 = .ok (.invokestatic 58, 3) := by decide +kernel
theorem dX2_settle_76 : decode cX2_settle 76 = .ok (.iastore, 1) := by decide +kernel
theorem dX2_settle_77 : decode cX2_settle 77 = .ok (.iload 4, 2) := by decide +kernel
theorem dX2_settle_79 : decode cX2_settle 79 = .ok (.aload_n 0, 1) := by decide +kernel
theorem dX2_settle_80 : decode cX2_settle 80 = .ok (.getfield 9, 3) := by decide +kernel
theorem dX2_settle_83 : decode cX2_settle 83 = .ok (.iload 5, 2) := by decide +kernel
theorem dX2_settle_85 : decode cX2_settle 85 = .ok (.iaload, 1) := by decide +kernel
theorem dX2_settle_86 : decode cX2_settle 86 = .ok (.iadd, 1) := by decide +kernel
theorem dX2_settle_87 : decode cX2_settle 87 = .ok (.istore 4, 2) := by decide +kernel
theorem dX2_settle_89 : decode cX2_settle 89 = .ok (.aload_n 0, 1) := by decide +kernel
theorem dX2_settle_90 : decode cX2_settle 90 = .ok (.getfield 40, 3) := by decide +kernel
theorem dX2_settle_93 : decode cX2_settle 93 = .ok (.aload_n 2, 1) := by decide +kernel
theorem dX2_settle_94 : decode cX2_settle 94 = .ok (.aload_n 0, 1) := by decide +kernel
theorem dX2_settle_95 : decode cX2_settle 95 = .ok (.getfield 15, 3) := by decide +kernel
theorem dX2_settle_98 : decode cX2_settle 98 = .ok (.iload 5, 2) := by decide +kernel
theorem dX2_settle_100 : decode cX2_settle 100 = .ok (.iaload, 1) := by decide +kernel
theorem dX2_settle_101 : decode cX2_settle 101 = .ok (.invokevirtual 62, 3) := by decide +kernel
theorem dX2_settle_104 : decode cX2_settle 104 = .ok (.aload_n 0, 1) := by decide +kernel
theorem dX2_settle_105 : decode cX2_settle 105 = .ok (.getfield 18, 3) := by decide +kernel
theorem dX2_settle_108 : decode cX2_settle 108 = .ok (.iload 5, 2) := by decide +kernel
theorem dX2_settle_110 : decode cX2_settle 110 = .ok (.aload_n 0, 1) := by decide +kernel
theorem dX2_settle_111 : decode cX2_settle 111 = .ok (.getfield 40, 3) := by decide +kernel
theorem dX2_settle_114 : decode cX2_settle 114 = .ok (.getfield 66, 3) := by decide +kernel
theorem dX2_settle_117 : decode cX2_settle 117 = .ok (.iastore, 1) := by decide +kernel
theorem dX2_settle_118 : decode cX2_settle 118 = .ok (.aload_n 0, 1) := by decide +kernel
theorem dX2_settle_119 : decode cX2_settle 119 = .ok (.getfield 21, 3) := by decide +kernel
theorem dX2_settle_122 : decode cX2_settle 122 = .ok (.iload 5, 2) := by decide +kernel
theorem dX2_settle_124 : decode cX2_settle 124 = .ok (.aload_n 0, 1) := by decide +kernel
theorem dX2_settle_125 : decode cX2_settle 125 = .ok (.getfield 40, 3) := by decide +kernel
theorem dX2_settle_128 : decode cX2_settle 128 = .ok (.getfield 66, 3) := by decide +kernel
theorem dX2_settle_131 : decode cX2_settle 131 = .ok (.ifCond .ne 7, 3) := by decide +kernel
theorem dX2_settle_134 : decode cX2_settle 134 = .ok (.iconst (-1), 1) := by decide +kernel
theorem dX2_settle_135 : decode cX2_settle 135 = .ok (.goto 12, 3) := by decide +kernel
theorem dX2_settle_138 : decode cX2_settle 138 = .ok (.aload_n 0, 1) := by decide +kernel
theorem dX2_settle_139 : decode cX2_settle 139 = .ok (.getfield 40, 3) := by decide +kernel
theorem dX2_settle_142 : decode cX2_settle 142 = .ok (.getfield 69, 3) := by decide +kernel
theorem dX2_settle_145 : decode cX2_settle 145 = .ok (.iconst 0, 1) := by decide +kernel
theorem dX2_settle_146 : decode cX2_settle 146 = .ok (.iaload, 1) := by decide +kernel
theorem dX2_settle_147 : decode cX2_settle 147 = .ok (.iastore, 1) := by decide +kernel
theorem dX2_settle_148 : decode cX2_settle 148 = .ok (.aload_n 0, 1) := by decide +kernel
theorem dX2_settle_149 : decode cX2_settle 149 = .ok (.getfield 24, 3) := by decide +kernel
theorem dX2_settle_152 : decode cX2_settle 152 = .ok (.iload 5, 2) := by decide +kernel
theorem dX2_settle_154 : decode cX2_settle 154 = .ok (.aload_n 0, 1) := by decide +kernel
theorem dX2_settle_155 : decode cX2_settle 155 = .ok (.getfield 40, 3) := by decide +kernel
theorem dX2_settle_158 : decode cX2_settle 158 = .ok (.getfield 66, 3) := by decide +kernel
theorem dX2_settle_161 : decode cX2_settle 161 = .ok (.ifCond .ne 7, 3) := by decide +kernel
theorem dX2_settle_164 : decode cX2_settle 164 = .ok (.iconst (-1), 1) := by decide +kernel
theorem dX2_settle_165 : decode cX2_settle 165 = .ok (.goto 12, 3) := by decide +kernel
theorem dX2_settle_168 : decode cX2_settle 168 = .ok (.aload_n 0, 1) := by decide +kernel
theorem dX2_settle_169 : decode cX2_settle 169 = .ok (.getfield 40, 3) := by decide +kernel
theorem dX2_settle_172 : decode cX2_settle 172 = .ok (.getfield 72, 3) := by decide +kernel
theorem dX2_settle_175 : decode cX2_settle 175 = .ok (.iconst 0, 1) := by decide +kernel
theorem dX2_settle_176 : decode cX2_settle 176 = .ok (.iaload, 1) := by decide +kernel
theorem dX2_settle_177 : decode cX2_settle 177 = .ok (.iastore, 1) := by decide +kernel
theorem dX2_settle_178 : decode cX2_settle 178 = .ok (.aload_n 0, 1) := by decide +kernel
theorem dX2_settle_179 : decode cX2_settle 179 = .ok (.getfield 40, 3) := by decide +kernel
theorem dX2_settle_182 : decode cX2_settle 182 = .ok (.getfield 66, 3) := by decide +kernel
theorem dX2_settle_185 : decode cX2_settle 185 = .ok (.iconst 1, 1) := by decide +kernel
theorem dX2_settle_186 : decode cX2_settle 186 = .ok (.if_icmp .eq 29, 3) := by decide +kernel
theorem dX2_settle_189 : decode cX2_settle 189 = .ok (.aload_n 0, 1) := by decide +kernel
theorem dX2_settle_190 : decode cX2_settle 190 = .ok (.aload_n 0, 1) := by decide +kernel
theorem dX2_settle_191 : decode cX2_settle 191 = .ok (.getfield 51, 3) := by decide +kernel
theorem dX2_settle_194 : decode cX2_settle 194 = .ok (.aload_n 0, 1) := by decide +kernel
theorem dX2_settle_195 : decode cX2_settle 195 = .ok (.getfield 40, 3) := by decide +kernel
theorem dX2_settle_198 : decode cX2_settle 198 = .ok (.getfield 66, 3) := by decide +kernel
theorem dX2_settle_201 : decode cX2_settle 201 = .ok (.ifCond .ne 7, 3) := by decide +kernel
theorem dX2_settle_204 : decode cX2_settle 204 = .ok (.iconst 0, 1) := by decide +kernel
theorem dX2_settle_205 : decode cX2_settle 205 = .ok (.goto 4, 3) := by decide +kernel
theorem dX2_settle_208 : decode cX2_settle 208 = .ok (.iconst 1, 1) := by decide +kernel
theorem dX2_settle_209 : decode cX2_settle 209 = .ok (.invokestatic 75, 3) := by decide +kernel
theorem dX2_settle_212 : decode cX2_settle 212 = .ok (.putfield 51, 3) := by decide +kernel
theorem dX2_settle_215 : decode cX2_settle 215 = .ok (.iinc 5 (-1), 3) := by decide +kernel
theorem dX2_settle_218 : decode cX2_settle 218 = .ok (.goto (-183), 3) := by decide +kernel
theorem dX2_settle_221 : decode cX2_settle 221 = .ok (.return_, 1) := by decide +kernel
theorem dX2_shine_0 : decode cX2_shine 0 = .ok (.lconst 0, 1) := by decide +kernel
theorem dX2_shine_1 : decode cX2_shine 1 = .ok (.lstore_n 3, 1) := by decide +kernel
theorem dX2_shine_2 : decode cX2_shine 2 = .ok (.lconst 0, 1) := by decide +kernel
theorem dX2_shine_3 : decode cX2_shine 3 = .ok (.lstore 5, 2) := by decide +kernel
theorem dX2_shine_5 : decode cX2_shine 5 = .ok (.iconst 0, 1) := by decide +kernel
theorem dX2_shine_6 : decode cX2_shine 6 = .ok (.istore 7, 2) := by decide +kernel
theorem dX2_shine_8 : decode cX2_shine 8 = .ok (.iload 7, 2) := by decide +kernel
theorem dX2_shine_10 : decode cX2_shine 10 = .ok (.aload_n 0, 1) := by decide +kernel
theorem dX2_shine_11 : decode cX2_shine 11 = .ok (.getfield 50, 3) := by decide +kernel
theorem dX2_shine_14 : decode cX2_shine 14 = .ok (.if_icmp .ge 124, 3) := by decide +kernel
theorem dX2_shine_17 : decode cX2_shine 17 = .ok (.lload_n 3, 1) := by decide +kernel
theorem dX2_shine_18 : decode cX2_shine 18 = .ok (.aload_n 0, 1) := by decide +kernel
theorem dX2_shine_19 : decode cX2_shine 19 = .ok (.aload_n 1, 1) := by decide +kernel
theorem dX2_shine_20 : decode cX2_shine 20 = .ok (.iload 7, 2) := by decide +kernel
theorem dX2_shine_22 : decode cX2_shine 22 = .ok (.aload_n 2, 1) := by decide +kernel
theorem dX2_shine_23 : decode cX2_shine 23 = .ok (.iconst 0, 1) := by decide +kernel
theorem dX2_shine_24 : decode cX2_shine 24 = .ok (.invokevirtual 80, 3) := by decide +kernel
theorem dX2_shine_27 : decode cX2_shine 27 = .ok (.ladd, 1) := by decide +kernel
theorem dX2_shine_28 : decode cX2_shine 28 = .ok (.lstore_n 3, 1) := by decide +kernel
theorem dX2_shine_29 : decode cX2_shine 29 = .ok (.lload 5, 2) := by decide +kernel
theorem dX2_shine_31 : decode cX2_shine 31 = .ok (.aload_n 0, 1) := by decide +kernel
theorem dX2_shine_32 : decode cX2_shine 32 = .ok (.aload_n 1, 1) := by decide +kernel
theorem dX2_shine_33 : decode cX2_shine 33 = .ok (.iload 7, 2) := by decide +kernel
theorem dX2_shine_35 : decode cX2_shine 35 = .ok (.aload_n 2, 1) := by decide +kernel
theorem dX2_shine_36 : decode cX2_shine 36 = .ok (.iconst 1, 1) := by decide +kernel
theorem dX2_shine_37 : decode cX2_shine 37 = .ok (.invokevirtual 80, 3) := by decide +kernel
theorem dX2_shine_40 : decode cX2_shine 40 = .ok (.ladd, 1) := by decide +kernel
theorem dX2_shine_41 : decode cX2_shine 41 = .ok (.lstore 5, 2) := by decide +kernel
theorem dX2_shine_43 : decode cX2_shine 43 = .ok (.aload_n 0, 1) := by decide +kernel
theorem dX2_shine_44 : decode cX2_shine 44 = .ok (.getfield 30, 3) := by decide +kernel
theorem dX2_shine_47 : decode cX2_shine 47 = .ok (.iload 7, 2) := by decide +kernel
theorem dX2_shine_49 : decode cX2_shine 49 = .ok (.lload_n 3, 1) := by decide +kernel
theorem dX2_shine_50 : decode cX2_shine 50 = .ok (.lastore, 1) := by decide +kernel
theorem dX2_shine_51 : decode cX2_shine 51 = .ok (.aload_n 0, 1) := by decide +kernel
theorem dX2_shine_52 : decode cX2_shine 52 = .ok (.getfield 34, 3) := by decide +kernel
theorem dX2_shine_55 : decode cX2_shine 55 = .ok (.iload 7, 2) := by decide +kernel
theorem dX2_shine_57 : decode cX2_shine 57 = .ok (.lload 5, 2) := by decide +kernel
theorem dX2_shine_59 : decode cX2_shine 59 = .ok (.lastore, 1) := by decide +kernel
theorem dX2_shine_60 : decode cX2_shine 60 = .ok (.lload 5, 2) := by decide +kernel
theorem dX2_shine_62 : decode cX2_shine 62 = .ok (.aload_n 0, 1) := by decide +kernel
theorem dX2_shine_63 : decode cX2_shine 63 = .ok (.iload 7, 2) := by decide +kernel
theorem dX2_shine_65 : decode cX2_shine 65 = .ok (.aload_n 2, 1) := by decide +kernel
theorem dX2_shine_66 : decode cX2_shine 66 = .ok (.iconst 1, 1) := by decide +kernel
theorem dX2_shine_67 : decode cX2_shine 67 = .ok (.invokevirtual 84, 3) := by decide +kernel
theorem dX2_shine_70 : decode cX2_shine 70 = .ok (.i2l, 1) := by decide +kernel
theorem dX2_shine_71 : decode cX2_shine 71 = .ok (.lmul, 1) := by decide +kernel
theorem dX2_shine_72 : decode cX2_shine 72 = .ok (.ldc2_w 88, 3) := by decide +kernel
theorem dX2_shine_75 : decode cX2_shine 75 = .ok (.ldiv, 1) := by decide +kernel
theorem dX2_shine_76 : decode cX2_shine 76 = .ok (.aload_n 1, 1) := by decide +kernel
theorem dX2_shine_77 : decode cX2_shine 77 = .ok (.getfield 90, 3) := by decide +kernel
theorem dX2_shine_80 : decode cX2_shine 80 = .ok (.i2l, 1) := by decide +kernel
theorem dX2_shine_81 : decode cX2_shine 81 = .ok (.lcmp, 1) := by decide +kernel
theorem dX2_shine_82 : decode cX2_shine 82 = .ok (.ifCond .gt 14, 3) := by decide +kernel
theorem dX2_shine_85 : decode cX2_shine 85 = .ok (.aload_n 0, 1) := by decide +kernel
theorem dX2_shine_86 : decode cX2_shine 86 = .ok (.getfield 27, 3) := by decide +kernel
theorem dX2_shine_89 : decode cX2_shine 89 = .ok (.iload 7, 2) := by decide +kernel
theorem dX2_shine_91 : decode cX2_shine 91 = .ok (.iconst 0, 1) := by decide +kernel
theorem dX2_shine_92 : decode cX2_shine 92 = .ok (.iastore, 1) := by decide +kernel
theorem dX2_shine_93 : decode cX2_shine 93 = .ok (.goto 39, 3) := by decide +kernel
theorem dX2_shine_96 : decode cX2_shine 96 = .ok (.aload_n 0, 1) := by decide +kernel
theorem dX2_shine_97 : decode cX2_shine 97 = .ok (.getfield 27, 3) := by decide +kernel
theorem dX2_shine_100 : decode cX2_shine 100 = .ok (.iload 7, 2) := by decide +kernel
theorem dX2_shine_102 : decode cX2_shine 102 = .ok (.lload_n 3, 1) := by decide +kernel
theorem dX2_shine_103 : decode cX2_shine 103 = .ok (.aload_n 0, 1) := by decide +kernel
theorem dX2_shine_104 : decode cX2_shine 104 = .ok (.iload 7, 2) := by decide +kernel
theorem dX2_shine_106 : decode cX2_shine 106 = .ok (.aload_n 2, 1) := by decide +kernel
theorem dX2_shine_107 : decode cX2_shine 107 = .ok (.iconst 0, 1) := by decide +kernel
theorem dX2_shine_108 : decode cX2_shine 108 = .ok (.invokevirtual 84, 3) := by decide +kernel
theorem dX2_shine_111 : decode cX2_shine 111 = .ok (.i2l, 1) := by decide +kernel
theorem dX2_shine_112 : decode cX2_shine 112 = .ok (.lmul, 1) := by decide +kernel
theorem dX2_shine_113 : decode cX2_shine 113 = .ok (.ldc2_w 88, 3) := by decide +kernel
theorem dX2_shine_116 : decode cX2_shine 116 = .ok (.ldiv, 1) := by decide +kernel
theorem dX2_shine_117 : decode cX2_shine 117 = .ok (.aload_n 1, 1) := by decide +kernel
theorem dX2_shine_118 : decode cX2_shine 118 = .ok (.getfield 90, 3) := by decide +kernel
theorem dX2_shine_121 : decode cX2_shine 121 = .ok (.i2l, 1) := by decide +kernel
theorem dX2_shine_122 : decode cX2_shine 122 = .ok (.lcmp, 1) := by decide +kernel
theorem dX2_shine_123 : decode cX2_shine 123 = .ok (.ifCond .le 7, 3) := by decide +kernel
theorem dX2_shine_126 : decode cX2_shine 126 = .ok (.iconst 1, 1) := by decide +kernel
theorem dX2_shine_127 : decode cX2_shine 127 = .ok (.goto 4, 3) := by decide +kernel
theorem dX2_shine_130 : decode cX2_shine 130 = .ok (.iconst 2, 1) := by decide +kernel
theorem dX2_shine_131 : decode cX2_shine 131 = .ok (.iastore, 1) := by decide +kernel
theorem dX2_shine_132 : decode cX2_shine 132 = .ok (.iinc 7 1, 3) := by decide +kernel
theorem dX2_shine_135 : decode cX2_shine 135 = .ok (.goto (-127), 3) := by decide +kernel
theorem dX2_shine_138 : decode cX2_shine 138 = .ok (.return_, 1) := by decide +kernel
theorem dX2_made_0 : decode cX2_made 0 = .ok (.lconst 0, 1) := by decide +kernel
theorem dX2_made_1 : decode cX2_made 1 = .ok (.lstore 5, 2) := by decide +kernel
theorem dX2_made_3 : decode cX2_made 3 = .ok (.iconst 0, 1) := by decide +kernel
theorem dX2_made_4 : decode cX2_made 4 = .ok (.istore 7, 2) := by decide +kernel
theorem dX2_made_6 : decode cX2_made 6 = .ok (.iload 7, 2) := by decide +kernel
theorem dX2_made_8 : decode cX2_made 8 = .ok (.iconst 5, 1) := by decide +kernel
theorem dX2_made_9 : decode cX2_made 9 = .ok (.if_icmp .ge 65, 3) := by decide +kernel
theorem dX2_made_12 : decode cX2_made 12 = .ok (.aload_n 3, 1) := by decide +kernel
theorem dX2_made_13 : decode cX2_made 13 = .ok (.iload 7, 2) := by decide +kernel
theorem dX2_made_15 : decode cX2_made 15 = .ok (.invokevirtual 93, 3) := by decide +kernel
theorem dX2_made_18 : decode cX2_made 18 = .ok (.ifCond .eq 50, 3) := by decide +kernel
theorem dX2_made_21 : decode cX2_made 21 = .ok (.aload_n 3, 1) := by decide +kernel
theorem dX2_made_22 : decode cX2_made 22 = .ok (.iconst 2, 1) := by decide +kernel
theorem dX2_made_23 : decode cX2_made 23 = .ok (.iload 7, 2) := by decide +kernel
theorem dX2_made_25 : decode cX2_made 25 = .ok (.iadd, 1) := by decide +kernel
theorem dX2_made_26 : decode cX2_made 26 = .ok (.aload_n 0, 1) := by decide +kernel
theorem dX2_made_27 : decode cX2_made 27 = .ok (.iload_n 2, 1) := by decide +kernel
theorem dX2_made_28 : decode cX2_made 28 = .ok (.invokevirtual 99, 3) := by decide +kernel
theorem dX2_made_31 : decode cX2_made 31 = .ok (.aload_n 0, 1) := by decide +kernel
theorem dX2_made_32 : decode cX2_made 32 = .ok (.iload_n 2, 1) := by decide +kernel
theorem dX2_made_33 : decode cX2_made 33 = .ok (.invokevirtual 103, 3) := by decide +kernel
theorem dX2_made_36 : decode cX2_made 36 = .ok (.iload 4, 2) := by decide +kernel
theorem dX2_made_38 : decode cX2_made 38 = .ok (.invokevirtual 106, 3) := by decide +kernel
theorem dX2_made_41 : decode cX2_made 41 = .ok (.istore 8, 2) := by decide +kernel
theorem dX2_made_43 : decode cX2_made 43 = .ok (.lload 5, 2) := by decide +kernel
theorem dX2_made_45 : decode cX2_made 45 = .ok (.aload_n 1, 1) := by decide +kernel
theorem dX2_made_46 : decode cX2_made 46 = .ok (.iload_n 2, 1) := by decide +kernel
theorem dX2_made_47 : decode cX2_made 47 = .ok (.iload 7, 2) := by decide +kernel
theorem dX2_made_49 : decode cX2_made 49 = .ok (.aload_n 3, 1) := by decide +kernel
theorem dX2_made_50 : decode cX2_made 50 = .ok (.iload 8, 2) := by decide +kernel
theorem dX2_made_52 : decode cX2_made 52 = .ok (.invokevirtual 110, 3) := by decide +kernel
theorem dX2_made_55 : decode cX2_made 55 = .ok (.i2l, 1) := by decide +kernel
theorem dX2_made_56 : decode cX2_made 56 = .ok (.aload_n 3, 1) := by decide +kernel
theorem dX2_made_57 : decode cX2_made 57 = .ok (.iload 7, 2) := by decide +kernel
theorem dX2_made_59 : decode cX2_made 59 = .ok (.iconst 4, 1) := by decide +kernel
theorem dX2_made_60 : decode cX2_made 60 = .ok (.invokevirtual 114, 3) := by decide +kernel
theorem dX2_made_63 : decode cX2_made 63 = .ok (.i2l, 1) := by decide +kernel
theorem dX2_made_64 : decode cX2_made 64 = .ok (.lmul, 1) := by decide +kernel
theorem dX2_made_65 : decode cX2_made 65 = .ok (.ladd, 1) := by decide +kernel
theorem dX2_made_66 : decode cX2_made 66 = .ok (.lstore 5, 2) := by decide +kernel
theorem dX2_made_68 : decode cX2_made 68 = .ok (.iinc 7 1, 3) := by decide +kernel
theorem dX2_made_71 : decode cX2_made 71 = .ok (.goto (-65), 3) := by decide +kernel
theorem dX2_made_74 : decode cX2_made 74 = .ok (.lload 5, 2) := by decide +kernel
theorem dX2_made_76 : decode cX2_made 76 = .ok (.lreturn, 1) := by decide +kernel
theorem dX2_haze_0 : decode cX2_haze 0 = .ok (.aload_n 2, 1) := by decide +kernel
theorem dX2_haze_1 : decode cX2_haze 1 = .ok (.iconst 1, 1) := by decide +kernel
theorem dX2_haze_2 : decode cX2_haze 2 = .ok (.aload_n 0, 1) := by decide +kernel
theorem dX2_haze_3 : decode cX2_haze 3 = .ok (.iload_n 1, 1) := by decide +kernel
theorem dX2_haze_4 : decode cX2_haze 4 = .ok (.invokevirtual 99, 3) := by decide +kernel
theorem dX2_haze_7 : decode cX2_haze 7 = .ok (.aload_n 0, 1) := by decide +kernel
theorem dX2_haze_8 : decode cX2_haze 8 = .ok (.iload_n 1, 1) := by decide +kernel
theorem dX2_haze_9 : decode cX2_haze 9 = .ok (.invokevirtual 103, 3) := by decide +kernel
theorem dX2_haze_12 : decode cX2_haze 12 = .ok (.iload_n 3, 1) := by decide +kernel
theorem dX2_haze_13 : decode cX2_haze 13 = .ok (.invokevirtual 106, 3) := by decide +kernel
theorem dX2_haze_16 : decode cX2_haze 16 = .ok (.ireturn, 1) := by decide +kernel
theorem dX2_spanFrom_0 : decode cX2_spanFrom 0 = .ok (.aload_n 0, 1) := by decide +kernel
theorem dX2_spanFrom_1 : decode cX2_spanFrom 1 = .ok (.getfield 21, 3) := by decide +kernel
theorem dX2_spanFrom_4 : decode cX2_spanFrom 4 = .ok (.iload_n 1, 1) := by decide +kernel
theorem dX2_spanFrom_5 : decode cX2_spanFrom 5 = .ok (.iaload, 1) := by decide +kernel
theorem dX2_spanFrom_6 : decode cX2_spanFrom 6 = .ok (.iconst (-1), 1) := by decide +kernel
theorem dX2_spanFrom_7 : decode cX2_spanFrom 7 = .ok (.if_icmp .ne 7, 3) := by decide +kernel
theorem dX2_spanFrom_10 : decode cX2_spanFrom 10 = .ok (.iconst 0, 1) := by decide +kernel
theorem dX2_spanFrom_11 : decode cX2_spanFrom 11 = .ok (.goto 9, 3) := by decide +kernel
theorem dX2_spanFrom_14 : decode cX2_spanFrom 14 = .ok (.aload_n 0, 1) := by decide +kernel
theorem dX2_spanFrom_15 : decode cX2_spanFrom 15 = .ok (.getfield 21, 3) := by decide +kernel
theorem dX2_spanFrom_18 : decode cX2_spanFrom 18 = .ok (.iload_n 1, 1) := by decide +kernel
theorem dX2_spanFrom_19 : decode cX2_spanFrom 19 = .ok (.iaload, 1) := by decide +kernel
theorem dX2_spanFrom_20 : decode cX2_spanFrom 20 = .ok (.ireturn, 1) := by decide +kernel
theorem dX2_spanTo_0 : decode cX2_spanTo 0 = .ok (.aload_n 0, 1) := by decide +kernel
theorem dX2_spanTo_1 : decode cX2_spanTo 1 = .ok (.getfield 24, 3) := by decide +kernel
theorem dX2_spanTo_4 : decode cX2_spanTo 4 = .ok (.iload_n 1, 1) := by decide +kernel
theorem dX2_spanTo_5 : decode cX2_spanTo 5 = .ok (.iaload, 1) := by decide +kernel
theorem dX2_spanTo_6 : decode cX2_spanTo 6 = .ok (.iconst (-1), 1) := by decide +kernel
theorem dX2_spanTo_7 : decode cX2_spanTo 7 = .ok (.if_icmp .ne 7, 3) := by decide +kernel
theorem dX2_spanTo_10 : decode cX2_spanTo 10 = .ok (.iconst 0, 1) := by decide +kernel
theorem dX2_spanTo_11 : decode cX2_spanTo 11 = .ok (.goto 9, 3) := by decide +kernel
theorem dX2_spanTo_14 : decode cX2_spanTo 14 = .ok (.aload_n 0, 1) := by decide +kernel
theorem dX2_spanTo_15 : decode cX2_spanTo 15 = .ok (.getfield 24, 3) := by decide +kernel
theorem dX2_spanTo_18 : decode cX2_spanTo 18 = .ok (.iload_n 1, 1) := by decide +kernel
theorem dX2_spanTo_19 : decode cX2_spanTo 19 = .ok (.iaload, 1) := by decide +kernel
theorem dX2_spanTo_20 : decode cX2_spanTo 20 = .ok (.ireturn, 1) := by decide +kernel
theorem dX3_init_0 : decode cX3_init 0 = .ok (.aload_n 0, 1) := by decide +kernel
theorem dX3_init_1 : decode cX3_init 1 = .ok (.invokespecial 3, 3) := by decide +kernel
theorem dX3_init_4 : decode cX3_init 4 = .ok (.aload_n 0, 1) := by decide +kernel
theorem dX3_init_5 : decode cX3_init 5 = .ok (.bipush 6, 2) := by decide +kernel
theorem dX3_init_7 : decode cX3_init 7 = .ok (.newarray .int, 2) := by decide +kernel
theorem dX3_init_9 : decode cX3_init 9 = .ok (.putfield 9, 3) := by decide +kernel
theorem dX3_init_12 : decode cX3_init 12 = .ok (.aload_n 0, 1) := by decide +kernel
theorem dX3_init_13 : decode cX3_init 13 = .ok (.bipush 25, 2) := by decide +kernel
theorem dX3_init_15 : decode cX3_init 15 = .ok (.newarray .int, 2) := by decide +kernel
theorem dX3_init_17 : decode cX3_init 17 = .ok (.putfield 15, 3) := by decide +kernel
theorem dX3_init_20 : decode cX3_init 20 = .ok (.aload_n 0, 1) := by decide +kernel
theorem dX3_init_21 : decode cX3_init 21 = .ok (.bipush 7, 2) := by decide +kernel
theorem dX3_init_23 : decode cX3_init 23 = .ok (.newarray .int, 2) := by decide +kernel
theorem dX3_init_25 : decode cX3_init 25 = .ok (.putfield 18, 3) := by decide +kernel
theorem dX3_init_28 : decode cX3_init 28 = .ok (.aload_n 0, 1) := by decide +kernel
theorem dX3_init_29 : decode cX3_init 29 = .ok (.sipush 168, 3) := by decide +kernel
theorem dX3_init_32 : decode cX3_init 32 = .ok (.newarray .int, 2) := by decide +kernel
theorem dX3_init_34 : decode cX3_init 34 = .ok (.putfield 21, 3) := by decide +kernel
theorem dX3_init_37 : decode cX3_init 37 = .ok (.iconst 0, 1) := by decide +kernel
theorem dX3_init_38 : decode cX3_init 38 = .ok (.istore_n 1, 1) := by decide +kernel
theorem dX3_init_39 : decode cX3_init 39 = .ok (.iload_n 1, 1) := by decide +kernel
theorem dX3_init_40 : decode cX3_init 40 = .ok (.bipush 6, 2) := by decide +kernel
theorem dX3_init_42 : decode cX3_init 42 = .ok (.if_icmp .ge 16, 3) := by decide +kernel
theorem dX3_init_45 : decode cX3_init 45 = .ok (.aload_n 0, 1) := by decide +kernel
theorem dX3_init_46 : decode cX3_init 46 = .ok (.getfield 9, 3) := by decide +kernel
theorem dX3_init_49 : decode cX3_init 49 = .ok (.iload_n 1, 1) := by decide +kernel
theorem dX3_init_50 : decode cX3_init 50 = .ok (.iconst 1, 1) := by decide +kernel
theorem dX3_init_51 : decode cX3_init 51 = .ok (.iastore, 1) := by decide +kernel
theorem dX3_init_52 : decode cX3_init 52 = .ok (.iinc 1 1, 3) := by decide +kernel
theorem dX3_init_55 : decode cX3_init 55 = .ok (.goto (-16), 3) := by decide +kernel
theorem dX3_init_58 : decode cX3_init 58 = .ok (.return_, 1) := by decide +kernel
theorem dX3_copyFrom_0 : decode cX3_copyFrom 0 = .ok (.aload_n 1, 1) := by decide +kernel
theorem dX3_copyFrom_1 : decode cX3_copyFrom 1 = .ok (.getfield 9, 3) := by decide +kernel
theorem dX3_copyFrom_4 : decode cX3_copyFrom 4 = .ok (.iconst 0, 1) := by decide +kernel
theorem dX3_copyFrom_5 : decode cX3_copyFrom 5 = .ok (.aload_n 0, 1) := by decide +kernel
theorem dX3_copyFrom_6 : decode cX3_copyFrom 6 = .ok (.getfield 9, 3) := by decide +kernel
theorem dX3_copyFrom_9 : decode cX3_copyFrom 9 = .ok (.iconst 0, 1) := by decide +kernel
theorem dX3_copyFrom_10 : decode cX3_copyFrom 10 = .ok (.aload_n 0, 1) := by decide +kernel
theorem dX3_copyFrom_11 : decode cX3_copyFrom 11 = .ok (.getfield 9, 3) := by decide +kernel
theorem dX3_copyFrom_14 : decode cX3_copyFrom 14 = .ok (.arraylength, 1) := by decide +kernel
theorem dX3_copyFrom_15 : decode cX3_copyFrom 15 = .ok (.invokestatic 24, 3) := by decide +kernel
theorem dX3_copyFrom_18 : decode cX3_copyFrom 18 = .ok (.aload_n 1, 1) := by decide +kernel
theorem dX3_copyFrom_19 : decode cX3_copyFrom 19 = .ok (.getfield 15, 3) := by decide +kernel
theorem dX3_copyFrom_22 : decode cX3_copyFrom 22 = .ok (.iconst 0, 1) := by decide +kernel
theorem dX3_copyFrom_23 : decode cX3_copyFrom 23 = .ok (.aload_n 0, 1) := by decide +kernel
theorem dX3_copyFrom_24 : decode cX3_copyFrom 24 = .ok (.getfield 15, 3) := by decide +kernel
theorem dX3_copyFrom_27 : decode cX3_copyFrom 27 = .ok (.iconst 0, 1) := by decide +kernel
theorem dX3_copyFrom_28 : decode cX3_copyFrom 28 = .ok (.aload_n 0, 1) := by decide +kernel
theorem dX3_copyFrom_29 : decode cX3_copyFrom 29 = .ok (.getfield 15, 3) := by decide +kernel
theorem dX3_copyFrom_32 : decode cX3_copyFrom 32 = .ok (.arraylength, 1) := by decide +kernel
theorem dX3_copyFrom_33 : decode cX3_copyFrom 33 = .ok (.invokestatic 24, 3) := by decide +kernel
theorem dX3_copyFrom_36 : decode cX3_copyFrom 36 = .ok (.aload_n 1, 1) := by decide +kernel
theorem dX3_copyFrom_37 : decode cX3_copyFrom 37 = .ok (.getfield 18, 3) := by decide +kernel
theorem dX3_copyFrom_40 : decode cX3_copyFrom 40 = .ok (.iconst 0, 1) := by decide +kernel
theorem dX3_copyFrom_41 : decode cX3_copyFrom 41 = .ok (.aload_n 0, 1) := by decide +kernel
theorem dX3_copyFrom_42 : decode cX3_copyFrom 42 = .ok (.getfield 18, 3) := by decide +kernel
theorem dX3_copyFrom_45 : decode cX3_copyFrom 45 = .ok (.iconst 0, 1) := by decide +kernel
theorem dX3_copyFrom_46 : decode cX3_copyFrom 46 = .ok (.aload_n 0, 1) := by decide +kernel
theorem dX3_copyFrom_47 : decode cX3_copyFrom 47 = .ok (.getfield 18, 3) := by decide +kernel
theorem dX3_copyFrom_50 : decode cX3_copyFrom 50 = .ok (.arraylength, 1) := by decide +kernel
theorem dX3_copyFrom_51 : decode cX3_copyFrom 51 = .ok (.invokestatic 24, 3) := by decide +kernel
theorem dX3_copyFrom_54 : decode cX3_copyFrom 54 = .ok (.aload_n 1, 1) := by decide +kernel
theorem dX3_copyFrom_55 : decode cX3_copyFrom 55 = .ok (.getfield 21, 3) := by decide +kernel
theorem dX3_copyFrom_58 : decode cX3_copyFrom 58 = .ok (.iconst 0, 1) := by decide +kernel
theorem dX3_copyFrom_59 : decode cX3_copyFrom 59 = .ok (.aload_n 0, 1) := by decide +kernel
theorem dX3_copyFrom_60 : decode cX3_copyFrom 60 = .ok (.getfield 21, 3) := by decide +kernel
theorem dX3_copyFrom_63 : decode cX3_copyFrom 63 = .ok (.iconst 0, 1) := by decide +kernel
theorem dX3_copyFrom_64 : decode cX3_copyFrom 64 = .ok (.aload_n 0, 1) := by decide +kernel
theorem dX3_copyFrom_65 : decode cX3_copyFrom 65 = .ok (.getfield 21, 3) := by decide +kernel
theorem dX3_copyFrom_68 : decode cX3_copyFrom 68 = .ok (.arraylength, 1) := by decide +kernel
theorem dX3_copyFrom_69 : decode cX3_copyFrom 69 = .ok (.invokestatic 24, 3) := by decide +kernel
theorem dX3_copyFrom_72 : decode cX3_copyFrom 72 = .ok (.return_, 1) := by decide +kernel
theorem dX3_ofChain_0 : decode cX3_ofChain 0 = .ok (.aload_n 0, 1) := by decide +kernel
theorem dX3_ofChain_1 : decode cX3_ofChain 1 = .ok (.getfield 15, 3) := by decide +kernel
theorem dX3_ofChain_4 : decode cX3_ofChain 4 = .ok (.iload_n 1, 1) := by decide +kernel
theorem dX3_ofChain_5 : decode cX3_ofChain 5 = .ok (.iconst 5, 1) := by decide +kernel
theorem dX3_ofChain_6 : decode cX3_ofChain 6 = .ok (.imul, 1) := by decide +kernel
theorem dX3_ofChain_7 : decode cX3_ofChain 7 = .ok (.iload_n 2, 1) := by decide +kernel
theorem dX3_ofChain_8 : decode cX3_ofChain 8 = .ok (.iadd, 1) := by decide +kernel
theorem dX3_ofChain_9 : decode cX3_ofChain 9 = .ok (.iaload, 1) := by decide +kernel
theorem dX3_ofChain_10 : decode cX3_ofChain 10 = .ok (.ireturn, 1) := by decide +kernel
theorem dX3_isTold_0 : decode cX3_isTold 0 = .ok (.aload_n 0, 1) := by decide +kernel
theorem dX3_isTold_1 : decode cX3_isTold 1 = .ok (.iload_n 1, 1) := by decide +kernel
theorem dX3_isTold_2 : decode cX3_isTold 2 = .ok (.iconst 1, 1) := by decide +kernel
theorem dX3_isTold_3 : decode cX3_isTold 3 = .ok (.invokevirtual 30, 3) := by decide +kernel
theorem dX3_isTold_6 : decode cX3_isTold 6 = .ok (.ifCond .le 7, 3) := by decide +kernel
theorem dX3_isTold_9 : decode cX3_isTold 9 = .ok (.iconst 1, 1) := by decide +kernel
theorem dX3_isTold_10 : decode cX3_isTold 10 = .ok (.goto 4, 3) := by decide +kernel
theorem dX3_isTold_13 : decode cX3_isTold 13 = .ok (.iconst 0, 1) := by decide +kernel
theorem dX3_isTold_14 : decode cX3_isTold 14 = .ok (.ireturn, 1) := by decide +kernel
theorem dX3_isBalanced_0 : decode cX3_isBalanced 0 = .ok (.iconst 0, 1) := by decide +kernel
theorem dX3_isBalanced_1 : decode cX3_isBalanced 1 = .ok (.istore_n 1, 1) := by decide +kernel
theorem dX3_isBalanced_2 : decode cX3_isBalanced 2 = .ok (.iload_n 1, 1) := by decide +kernel
theorem dX3_isBalanced_3 : decode cX3_isBalanced 3 = .ok (.iconst 5, 1) := by decide +kernel
theorem dX3_isBalanced_4 : decode cX3_isBalanced 4 = .ok (.if_icmp .ge 54, 3) := by decide +kernel
theorem dX3_isBalanced_7 : decode cX3_isBalanced 7 = .ok (.aload_n 0, 1) := by decide +kernel
theorem dX3_isBalanced_8 : decode cX3_isBalanced 8 = .ok (.iload_n 1, 1) := by decide +kernel
theorem dX3_isBalanced_9 : decode cX3_isBalanced 9 = .ok (.iconst 1, 1) := by decide +kernel
theorem dX3_isBalanced_10 : decode cX3_isBalanced 10 = .ok (.invokevirtual 30, 3) := by decide +kernel
theorem dX3_isBalanced_13 : decode cX3_isBalanced 13 = .ok (.aload_n 0, 1) := by decide +kernel
theorem dX3_isBalanced_14 : decode cX3_isBalanced 14 = .ok (.getfield 9, 3) := by decide +kernel
theorem dX3_isBalanced_17 : decode cX3_isBalanced 17 = .ok (.aload_n 0, 1) := by decide +kernel
theorem dX3_isBalanced_18 : decode cX3_isBalanced 18 = .ok (.iload_n 1, 1) := by decide +kernel
theorem dX3_isBalanced_19 : decode cX3_isBalanced 19 = .ok (.iconst 0, 1) := by decide +kernel
theorem dX3_isBalanced_20 : decode cX3_isBalanced 20 = .ok (.invokevirtual 30, 3) := by decide +kernel
theorem dX3_isBalanced_23 : decode cX3_isBalanced 23 = .ok (.iaload, 1) := by decide +kernel
theorem dX3_isBalanced_24 : decode cX3_isBalanced 24 = .ok (.imul, 1) := by decide +kernel
theorem dX3_isBalanced_25 : decode cX3_isBalanced 25 = .ok (.istore_n 2, 1) := by decide +kernel
theorem dX3_isBalanced_26 : decode cX3_isBalanced 26 = .ok (.aload_n 0, 1) := by decide +kernel
theorem dX3_isBalanced_27 : decode cX3_isBalanced 27 = .ok (.iload_n 1, 1) := by decide +kernel
theorem dX3_isBalanced_28 : decode cX3_isBalanced 28 = .ok (.iconst 3, 1) := by decide +kernel
theorem dX3_isBalanced_29 : decode cX3_isBalanced 29 = .ok (.invokevirtual 30, 3) := by decide +kernel
theorem dX3_isBalanced_32 : decode cX3_isBalanced 32 = .ok (.aload_n 0, 1) := by decide +kernel
theorem dX3_isBalanced_33 : decode cX3_isBalanced 33 = .ok (.getfield 9, 3) := by decide +kernel
theorem dX3_isBalanced_36 : decode cX3_isBalanced 36 = .ok (.aload_n 0, 1) := by decide +kernel
theorem dX3_isBalanced_37 : decode cX3_isBalanced 37 = .ok (.iload_n 1, 1) := by decide +kernel
theorem dX3_isBalanced_38 : decode cX3_isBalanced 38 = .ok (.iconst 2, 1) := by decide +kernel
theorem dX3_isBalanced_39 : decode cX3_isBalanced 39 = .ok (.invokevirtual 30, 3) := by decide +kernel
theorem dX3_isBalanced_42 : decode cX3_isBalanced 42 = .ok (.iaload, 1) := by decide +kernel
theorem dX3_isBalanced_43 : decode cX3_isBalanced 43 = .ok (.imul, 1) := by decide +kernel
theorem dX3_isBalanced_44 : decode cX3_isBalanced 44 = .ok (.istore_n 3, 1) := by decide +kernel
theorem dX3_isBalanced_45 : decode cX3_isBalanced 45 = .ok (.iload_n 2, 1) := by decide +kernel
theorem dX3_isBalanced_46 : decode cX3_isBalanced 46 = .ok (.iload_n 3, 1) := by decide +kernel
theorem dX3_isBalanced_47 : decode cX3_isBalanced 47 = .ok (.if_icmp .eq 5, 3) := by decide +kernel
theorem dX3_isBalanced_50 : decode cX3_isBalanced 50 = .ok (.iconst 0, 1) := by decide +kernel
theorem dX3_isBalanced_51 : decode cX3_isBalanced 51 = .ok (.ireturn, 1) := by decide +kernel
theorem dX3_isBalanced_52 : decode cX3_isBalanced 52 = .ok (.iinc 1 1, 3) := by decide +kernel
theorem dX3_isBalanced_55 : decode cX3_isBalanced 55 = .ok (.goto (-53), 3) := by decide +kernel
theorem dX3_isBalanced_58 : decode cX3_isBalanced 58 = .ok (.iconst 1, 1) := by decide +kernel
theorem dX3_isBalanced_59 : decode cX3_isBalanced 59 = .ok (.ireturn, 1) := by decide +kernel
theorem dX3_ofPoint_0 : decode cX3_ofPoint 0 = .ok (.aload_n 0, 1) := by decide +kernel
theorem dX3_ofPoint_1 : decode cX3_ofPoint 1 = .ok (.getfield 21, 3) := by decide +kernel
theorem dX3_ofPoint_4 : decode cX3_ofPoint 4 = .ok (.iload_n 1, 1) := by decide +kernel
theorem dX3_ofPoint_5 : decode cX3_ofPoint 5 = .ok (.bipush 8, 2) := by decide +kernel
theorem dX3_ofPoint_7 : decode cX3_ofPoint 7 = .ok (.imul, 1) := by decide +kernel
theorem dX3_ofPoint_8 : decode cX3_ofPoint 8 = .ok (.iload_n 2, 1) := by decide +kernel
theorem dX3_ofPoint_9 : decode cX3_ofPoint 9 = .ok (.iadd, 1) := by decide +kernel
theorem dX3_ofPoint_10 : decode cX3_ofPoint 10 = .ok (.iconst 3, 1) := by decide +kernel
theorem dX3_ofPoint_11 : decode cX3_ofPoint 11 = .ok (.imul, 1) := by decide +kernel
theorem dX3_ofPoint_12 : decode cX3_ofPoint 12 = .ok (.iload_n 3, 1) := by decide +kernel
theorem dX3_ofPoint_13 : decode cX3_ofPoint 13 = .ok (.iadd, 1) := by decide +kernel
theorem dX3_ofPoint_14 : decode cX3_ofPoint 14 = .ok (.iaload, 1) := by decide +kernel
theorem dX3_ofPoint_15 : decode cX3_ofPoint 15 = .ok (.ireturn, 1) := by decide +kernel
theorem dX3_addPoint_0 : decode cX3_addPoint 0 = .ok (.aload_n 0, 1) := by decide +kernel
theorem dX3_addPoint_1 : decode cX3_addPoint 1 = .ok (.getfield 18, 3) := by decide +kernel
theorem dX3_addPoint_4 : decode cX3_addPoint 4 = .ok (.iload_n 1, 1) := by decide +kernel
theorem dX3_addPoint_5 : decode cX3_addPoint 5 = .ok (.iaload, 1) := by decide +kernel
theorem dX3_addPoint_6 : decode cX3_addPoint 6 = .ok (.bipush 8, 2) := by decide +kernel
theorem dX3_addPoint_8 : decode cX3_addPoint 8 = .ok (.if_icmp .lt 4, 3) := by decide +kernel
theorem dX3_addPoint_11 : decode cX3_addPoint 11 = .ok (.return_, 1) := by decide +kernel
theorem dX3_addPoint_12 : decode cX3_addPoint 12 = .ok (.iload_n 1, 1) := by decide +kernel
theorem dX3_addPoint_13 : decode cX3_addPoint 13 = .ok (.bipush 8, 2) := by decide +kernel
theorem dX3_addPoint_15 : decode cX3_addPoint 15 = .ok (.imul, 1) := by decide +kernel
theorem dX3_addPoint_16 : decode cX3_addPoint 16 = .ok (.aload_n 0, 1) := by decide +kernel
theorem dX3_addPoint_17 : decode cX3_addPoint 17 = .ok (.getfield 18, 3) := by decide +kernel
theorem dX3_addPoint_20 : decode cX3_addPoint 20 = .ok (.iload_n 1, 1) := by decide +kernel
theorem dX3_addPoint_21 : decode cX3_addPoint 21 = .ok (.iaload, 1) := by decide +kernel
theorem dX3_addPoint_22 : decode cX3_addPoint 22 = .ok (.iadd, 1) := by decide +kernel
theorem dX3_addPoint_23 : decode cX3_addPoint 23 = .ok (.iconst 3, 1) := by decide +kernel
theorem dX3_addPoint_24 : decode cX3_addPoint 24 = .ok (.imul, 1) := by decide +kernel
theorem dX3_addPoint_25 : decode cX3_addPoint 25 = .ok (.istore 5, 2) := by decide +kernel
theorem dX3_addPoint_27 : decode cX3_addPoint 27 = .ok (.aload_n 0, 1) := by decide +kernel
theorem dX3_addPoint_28 : decode cX3_addPoint 28 = .ok (.getfield 21, 3) := by decide +kernel
theorem dX3_addPoint_31 : decode cX3_addPoint 31 = .ok (.iload 5, 2) := by decide +kernel
theorem dX3_addPoint_33 : decode cX3_addPoint 33 = .ok (.iconst 0, 1) := by decide +kernel
theorem dX3_addPoint_34 : decode cX3_addPoint 34 = .ok (.iadd, 1) := by decide +kernel
theorem dX3_addPoint_35 : decode cX3_addPoint 35 = .ok (.iload_n 2, 1) := by decide +kernel
theorem dX3_addPoint_36 : decode cX3_addPoint 36 = .ok (.iastore, 1) := by decide +kernel
theorem dX3_addPoint_37 : decode cX3_addPoint 37 = .ok (.aload_n 0, 1) := by decide +kernel
theorem dX3_addPoint_38 : decode cX3_addPoint 38 = .ok (.getfield 21, 3) := by decide +kernel
theorem dX3_addPoint_41 : decode cX3_addPoint 41 = .ok (.iload 5, 2) := by decide +kernel
theorem dX3_addPoint_43 : decode cX3_addPoint 43 = .ok (.iconst 1, 1) := by decide +kernel
theorem dX3_addPoint_44 : decode cX3_addPoint 44 = .ok (.iadd, 1) := by decide +kernel
theorem dX3_addPoint_45 : decode cX3_addPoint 45 = .ok (.iload_n 3, 1) := by decide +kernel
theorem dX3_addPoint_46 : decode cX3_addPoint 46 = .ok (.iastore, 1) := by decide +kernel
theorem dX3_addPoint_47 : decode cX3_addPoint 47 = .ok (.aload_n 0, 1) := by decide +kernel
theorem dX3_addPoint_48 : decode cX3_addPoint 48 = .ok (.getfield 21, 3) := by decide +kernel
theorem dX3_addPoint_51 : decode cX3_addPoint 51 = .ok (.iload 5, 2) := by decide +kernel
theorem dX3_addPoint_53 : decode cX3_addPoint 53 = .ok (.iconst 2, 1) := by decide +kernel
theorem dX3_addPoint_54 : decode cX3_addPoint 54 = .ok (.iadd, 1) := by decide +kernel
theorem dX3_addPoint_55 : decode cX3_addPoint 55 = .ok (.iload 4, 2) := by decide +kernel
theorem dX3_addPoint_57 : decode cX3_addPoint 57 = .ok (.iastore, 1) := by decide +kernel
theorem dX3_addPoint_58 : decode cX3_addPoint 58 = .ok (.aload_n 0, 1) := by decide +kernel
theorem dX3_addPoint_59 : decode cX3_addPoint 59 = .ok (.getfield 18, 3) := by decide +kernel
theorem dX3_addPoint_62 : decode cX3_addPoint 62 = .ok (.iload_n 1, 1) := by decide +kernel
theorem dX3_addPoint_63 : decode cX3_addPoint 63 = .ok (.dup2, 1) := by decide +kernel
theorem dX3_addPoint_64 : decode cX3_addPoint 64 = .ok (.iaload, 1) := by decide +kernel
theorem dX3_addPoint_65 : decode cX3_addPoint 65 = .ok (.iconst 1, 1) := by decide +kernel
theorem dX3_addPoint_66 : decode cX3_addPoint 66 = .ok (.iadd, 1) := by decide +kernel
theorem dX3_addPoint_67 : decode cX3_addPoint 67 = .ok (.iastore, 1) := by decide +kernel
theorem dX3_addPoint_68 : decode cX3_addPoint 68 = .ok (.return_, 1) := by decide +kernel
theorem dX3_span_0 : decode cX3_span 0 = .ok (.aload_n 0, 1) := by decide +kernel
theorem dX3_span_1 : decode cX3_span 1 = .ok (.getfield 18, 3) := by decide +kernel
theorem dX3_span_4 : decode cX3_span 4 = .ok (.iload_n 1, 1) := by decide +kernel
theorem dX3_span_5 : decode cX3_span 5 = .ok (.iaload, 1) := by decide +kernel
theorem dX3_span_6 : decode cX3_span 6 = .ok (.istore 4, 2) := by decide +kernel
theorem dX3_span_8 : decode cX3_span 8 = .ok (.iload 4, 2) := by decide +kernel
theorem dX3_span_10 : decode cX3_span 10 = .ok (.ifCond .ne 5, 3) := by decide +kernel
theorem dX3_span_13 : decode cX3_span 13 = .ok (.iconst 0, 1) := by decide +kernel
theorem dX3_span_14 : decode cX3_span 14 = .ok (.ireturn, 1) := by decide +kernel
theorem dX3_span_15 : decode cX3_span 15 = .ok (.iconst 0, 1) := by decide +kernel
theorem dX3_span_16 : decode cX3_span 16 = .ok (.istore 5, 2) := by decide +kernel
theorem dX3_span_18 : decode cX3_span 18 = .ok (.iload 5, 2) := by decide +kernel
theorem dX3_span_20 : decode cX3_span 20 = .ok (.iload 4, 2) := by decide +kernel
theorem dX3_span_22 : decode cX3_span 22 = .ok (.if_icmp .ge 21, 3) := by decide +kernel
theorem dX3_span_25 : decode cX3_span 25 = .ok (.aload_n 0, 1) := by decide +kernel
theorem dX3_span_26 : decode cX3_span 26 = .ok (.iload_n 1, 1) := by decide +kernel
theorem dX3_span_27 : decode cX3_span 27 = .ok (.iload 5, 2) := by decide +kernel
theorem dX3_span_29 : decode cX3_span 29 = .ok (.iconst 0, 1) := by decide +kernel
theorem dX3_span_30 : decode cX3_span 30 = .ok (.invokevirtual 34, 3) := by decide +kernel
theorem dX3_span_33 : decode cX3_span 33 = .ok (.iload_n 2, 1) := by decide +kernel
theorem dX3_span_34 : decode cX3_span 34 = .ok (.if_icmp .gt 9, 3) := by decide +kernel
theorem dX3_span_37 : decode cX3_span 37 = .ok (.iinc 5 1, 3) := by decide +kernel
theorem dX3_span_40 : decode cX3_span 40 = .ok (.goto (-22), 3) := by decide +kernel
theorem dX3_span_43 : decode cX3_span 43 = .ok (.iload 5, 2) := by decide +kernel
theorem dX3_span_45 : decode cX3_span 45 = .ok (.iconst 1, 1) := by decide +kernel
theorem dX3_span_46 : decode cX3_span 46 = .ok (.isub, 1) := by decide +kernel
theorem dX3_span_47 : decode cX3_span 47 = .ok (.iconst 0, 1) := by decide +kernel
theorem dX3_span_48 : decode cX3_span 48 = .ok (.invokestatic 38, 3) := by decide +kernel
theorem dX3_span_51 : decode cX3_span 51 = .ok (.istore 6, 2) := by decide +kernel
theorem dX3_span_53 : decode cX3_span 53 = .ok (.iload 5, 2) := by decide +kernel
theorem dX3_span_55 : decode cX3_span 55 = .ok (.iload 4, 2) := by decide +kernel
theorem dX3_span_57 : decode cX3_span 57 = .ok (.iconst 1, 1) := by decide +kernel
theorem dX3_span_58 : decode cX3_span 58 = .ok (.isub, 1) := by decide +kernel
theorem dX3_span_59 : decode cX3_span 59 = .ok (.invokestatic 43, 3) := by decide +kernel
theorem dX3_span_62 : decode cX3_span 62 = .ok (.istore 7, 2) := by decide +kernel
theorem dX3_span_64 : decode cX3_span 64 = .ok (.iload_n 3, 1) := by decide +kernel
theorem dX3_span_65 : decode cX3_span 65 = .ok (.ifCond .eq 7, 3) := by decide +kernel
theorem dX3_span_68 : decode cX3_span 68 = .ok (.iconst 2, 1) := by decide +kernel
theorem dX3_span_69 : decode cX3_span 69 = .ok (.goto 4, 3) := by decide +kernel
theorem dX3_span_72 : decode cX3_span 72 = .ok (.iconst 1, 1) := by decide +kernel
theorem dX3_span_73 : decode cX3_span 73 = .ok (.istore 8, 2) := by decide +kernel
theorem dX3_span_75 : decode cX3_span 75 = .ok (.aload_n 0, 1) := by decide +kernel
theorem dX3_span_76 : decode cX3_span 76 = .ok (.iload_n 1, 1) := by decide +kernel
theorem dX3_span_77 : decode cX3_span 77 = .ok (.iload 7, 2) := by decide +kernel
theorem dX3_span_79 : decode cX3_span 79 = .ok (.iconst 0, 1) := by decide +kernel
theorem dX3_span_80 : decode cX3_span 80 = .ok (.invokevirtual 34, 3) := by decide +kernel
theorem dX3_span_83 : decode cX3_span 83 = .ok (.aload_n 0, 1) := by decide +kernel
theorem dX3_span_84 : decode cX3_span 84 = .ok (.iload_n 1, 1) := by decide +kernel
theorem dX3_span_85 : decode cX3_span 85 = .ok (.iload 6, 2) := by decide +kernel
theorem dX3_span_87 : decode cX3_span 87 = .ok (.iconst 0, 1) := by decide +kernel
theorem dX3_span_88 : decode cX3_span 88 = .ok (.invokevirtual 34, 3) := by decide +kernel
theorem dX3_span_91 : decode cX3_span 91 = .ok (.isub, 1) := by decide +kernel
theorem dX3_span_92 : decode cX3_span 92 = .ok (.istore 9, 2) := by decide +kernel
theorem dX3_span_94 : decode cX3_span 94 = .ok (.iload 9, 2) := by decide +kernel
theorem dX3_span_96 : decode cX3_span 96 = .ok (.ifCond .gt 13, 3) := by decide +kernel
theorem dX3_span_99 : decode cX3_span 99 = .ok (.aload_n 0, 1) := by decide +kernel
theorem dX3_span_100 : decode cX3_span 100 = .ok (.iload_n 1, 1) := by decide +kernel
theorem dX3_span_101 : decode cX3_span 101 = .ok (.iload 6, 2) := by decide +kernel
theorem dX3_span_103 : decode cX3_span 103 = .ok (.iload 8, 2) := by decide +kernel
theorem dX3_span_105 : decode cX3_span 105 = .ok (.invokevirtual 34, 3) := by decide +kernel
theorem dX3_span_108 : decode cX3_span 108 = .ok (.ireturn, 1) := by decide +kernel
theorem dX3_span_109 : decode cX3_span 109 = .ok (.iload_n 2, 1) := by decide +kernel
theorem dX3_span_110 : decode cX3_span 110 = .ok (.aload_n 0, 1) := by decide +kernel
theorem dX3_span_111 : decode cX3_span 111 = .ok (.iload_n 1, 1) := by decide +kernel
theorem dX3_span_112 : decode cX3_span 112 = .ok (.iload 6, 2) := by decide +kernel
theorem dX3_span_114 : decode cX3_span 114 = .ok (.iconst 0, 1) := by decide +kernel
theorem dX3_span_115 : decode cX3_span 115 = .ok (.invokevirtual 34, 3) := by decide +kernel
theorem dX3_span_118 : decode cX3_span 118 = .ok (.isub, 1) := by decide +kernel
theorem dX3_span_119 : decode cX3_span 119 = .ok (.istore 10, 2) := by decide +kernel
theorem dX3_span_121 : decode cX3_span 121 = .ok (.aload_n 0, 1) := by decide +kernel
theorem dX3_span_122 : decode cX3_span 122 = .ok (.iload_n 1, 1) := by decide +kernel
theorem dX3_span_123 : decode cX3_span 123 = .ok (.iload 6, 2) := by decide +kernel
theorem dX3_span_125 : decode cX3_span 125 = .ok (.iload 8, 2) := by decide +kernel
theorem dX3_span_127 : decode cX3_span 127 = .ok (.invokevirtual 34, 3) := by decide +kernel
theorem dX3_span_130 : decode cX3_span 130 = .ok (.iload 9, 2) := by decide +kernel
theorem dX3_span_132 : decode cX3_span 132 = .ok (.iload 10, 2) := by decide +kernel
theorem dX3_span_134 : decode cX3_span 134 = .ok (.isub, 1) := by decide +kernel
theorem dX3_span_135 : decode cX3_span 135 = .ok (.imul, 1) := by decide +kernel
theorem dX3_span_136 : decode cX3_span 136 = .ok (.aload_n 0, 1) := by decide +kernel
theorem dX3_span_137 : decode cX3_span 137 = .ok (.iload_n 1, 1) := by decide +kernel
theorem dX3_span_138 : decode cX3_span 138 = .ok (.iload 7, 2) := by decide +kernel
theorem dX3_span_140 : decode cX3_span 140 = .ok (.iload 8, 2) := by decide +kernel
theorem dX3_span_142 : decode cX3_span 142 = .ok (.invokevirtual 34, 3) := by decide +kernel
theorem dX3_span_145 : decode cX3_span 145 = .ok (.iload 10, 2) := by decide +kernel
theorem dX3_span_147 : decode cX3_span 147 = .ok (.imul, 1) := by decide +kernel
theorem dX3_span_148 : decode cX3_span 148 = .ok (.iadd, 1) := by decide +kernel
theorem dX3_span_149 : decode cX3_span 149 = .ok (.istore 11, 2) := by decide +kernel
theorem dX3_span_151 : decode cX3_span 151 = .ok (.iload_n 3, 1) := by decide +kernel
theorem dX3_span_152 : decode cX3_span 152 = .ok (.ifCond .eq 13, 3) := by decide +kernel
theorem dX3_span_155 : decode cX3_span 155 = .ok (.iload 11, 2) := by decide +kernel
theorem dX3_span_157 : decode cX3_span 157 = .ok (.iload 9, 2) := by decide +kernel
theorem dX3_span_159 : decode cX3_span 159 = .ok (.iadd, 1) := by decide +kernel
theorem dX3_span_160 : decode cX3_span 160 = .ok (.iconst 1, 1) := by decide +kernel
theorem dX3_span_161 : decode cX3_span 161 = .ok (.isub, 1) := by decide +kernel
theorem dX3_span_162 : decode cX3_span 162 = .ok (.goto 5, 3) := by decide +kernel
theorem dX3_span_165 : decode cX3_span 165 = .ok (.iload 11, 2) := by decide +kernel
theorem dX3_span_167 : decode cX3_span 167 = .ok (.iload 9, 2) := by decide +kernel
theorem dX3_span_169 : decode cX3_span 169 = .ok (.invokestatic 46, 3) := by decide +kernel
theorem dX3_span_172 : decode cX3_span 172 = .ok (.ireturn, 1) := by decide +kernel
theorem dX3_extreme_0 : decode cX3_extreme 0 = .ok (.aload_n 0, 1) := by decide +kernel
theorem dX3_extreme_1 : decode cX3_extreme 1 = .ok (.iload_n 1, 1) := by decide +kernel
theorem dX3_extreme_2 : decode cX3_extreme 2 = .ok (.iload_n 2, 1) := by decide +kernel
theorem dX3_extreme_3 : decode cX3_extreme 3 = .ok (.iload 4, 2) := by decide +kernel
theorem dX3_extreme_5 : decode cX3_extreme 5 = .ok (.invokevirtual 49, 3) := by decide +kernel
theorem dX3_extreme_8 : decode cX3_extreme 8 = .ok (.istore 5, 2) := by decide +kernel
theorem dX3_extreme_10 : decode cX3_extreme 10 = .ok (.aload_n 0, 1) := by decide +kernel
theorem dX3_extreme_11 : decode cX3_extreme 11 = .ok (.iload_n 1, 1) := by decide +kernel
theorem dX3_extreme_12 : decode cX3_extreme 12 = .ok (.iload_n 3, 1) := by decide +kernel
theorem dX3_extreme_13 : decode cX3_extreme 13 = .ok (.iload 4, 2) := by decide +kernel
theorem dX3_extreme_15 : decode cX3_extreme 15 = .ok (.invokevirtual 49, 3) := by decide +kernel
theorem dX3_extreme_18 : decode cX3_extreme 18 = .ok (.istore 6, 2) := by decide +kernel
theorem dX3_extreme_20 : decode cX3_extreme 20 = .ok (.iload 4, 2) := by decide +kernel
theorem dX3_extreme_22 : decode cX3_extreme 22 = .ok (.ifCond .eq 13, 3) := by decide +kernel
theorem dX3_extreme_25 : decode cX3_extreme 25 = .ok (.iload 5, 2) := by decide +kernel
theorem dX3_extreme_27 : decode cX3_extreme 27 = .ok (.iload 6, 2) := by decide +kernel
theorem dX3_extreme_29 : decode cX3_extreme 29 = .ok (.invokestatic 38, 3) := by decide +kernel
theorem dX3_extreme_32 : decode cX3_extreme 32 = .ok (.goto 10, 3) := by decide +kernel
theorem dX3_extreme_35 : decode cX3_extreme 35 = .ok (.iload 5, 2) := by decide +kernel
theorem dX3_extreme_37 : decode cX3_extreme 37 = .ok (.iload 6, 2) := by decide +kernel
theorem dX3_extreme_39 : decode cX3_extreme 39 = .ok (.invokestatic 43, 3) := by decide +kernel
theorem dX3_extreme_42 : decode cX3_extreme 42 = .ok (.istore 7, 2) := by decide +kernel
theorem dX3_extreme_44 : decode cX3_extreme 44 = .ok (.iconst 0, 1) := by decide +kernel
theorem dX3_extreme_45 : decode cX3_extreme 45 = .ok (.istore 8, 2) := by decide +kernel
theorem dX3_extreme_47 : decode cX3_extreme 47 = .ok (.iload 8, 2) := by decide +kernel
theorem dX3_extreme_49 : decode cX3_extreme 49 = .ok (.aload_n 0, 1) := by decide +kernel
theorem dX3_extreme_50 : decode cX3_extreme 50 = .ok (.getfield 18, 3) := by decide +kernel
theorem dX3_extreme_53 : decode cX3_extreme 53 = .ok (.iload_n 1, 1) := by decide +kernel
theorem dX3_extreme_54 : decode cX3_extreme 54 = .ok (.iaload, 1) := by decide +kernel
theorem dX3_extreme_55 : decode cX3_extreme 55 = .ok (.if_icmp .ge 74, 3) := by decide +kernel
theorem dX3_extreme_58 : decode cX3_extreme 58 = .ok (.aload_n 0, 1) := by decide +kernel
theorem dX3_extreme_59 : decode cX3_extreme 59 = .ok (.iload_n 1, 1) := by decide +kernel
theorem dX3_extreme_60 : decode cX3_extreme 60 = .ok (.iload 8, 2) := by decide +kernel
theorem dX3_extreme_62 : decode cX3_extreme 62 = .ok (.iconst 0, 1) := by decide +kernel
theorem dX3_extreme_63 : decode cX3_extreme 63 = .ok (.invokevirtual 34, 3) := by decide +kernel
theorem dX3_extreme_66 : decode cX3_extreme 66 = .ok (.istore 9, 2) := by decide +kernel
theorem dX3_extreme_68 : decode cX3_extreme 68 = .ok (.iload 9, 2) := by decide +kernel
theorem dX3_extreme_70 : decode cX3_extreme 70 = .ok (.iload_n 2, 1) := by decide +kernel
theorem dX3_extreme_71 : decode cX3_extreme 71 = .ok (.if_icmp .le 52, 3) := by decide +kernel
theorem dX3_extreme_74 : decode cX3_extreme 74 = .ok (.iload 9, 2) := by decide +kernel
theorem dX3_extreme_76 : decode cX3_extreme 76 = .ok (.iload_n 3, 1) := by decide +kernel
theorem dX3_extreme_77 : decode cX3_extreme 77 = .ok (.if_icmp .ge 46, 3) := by decide +kernel
theorem dX3_extreme_80 : decode cX3_extreme 80 = .ok (.aload_n 0, 1) := by decide +kernel
theorem dX3_extreme_81 : decode cX3_extreme 81 = .ok (.iload_n 1, 1) := by decide +kernel
theorem dX3_extreme_82 : decode cX3_extreme 82 = .ok (.iload 8, 2) := by decide +kernel
theorem dX3_extreme_84 : decode cX3_extreme 84 = .ok (.iload 4, 2) := by decide +kernel
theorem dX3_extreme_86 : decode cX3_extreme 86 = .ok (.ifCond .eq 7, 3) := by decide +kernel
theorem dX3_extreme_89 : decode cX3_extreme 89 = .ok (.iconst 2, 1) := by decide +kernel
theorem dX3_extreme_90 : decode cX3_extreme 90 = .ok (.goto 4, 3) := by decide +kernel
theorem dX3_extreme_93 : decode cX3_extreme 93 = .ok (.iconst 1, 1) := by decide +kernel
theorem dX3_extreme_94 : decode cX3_extreme 94 = .ok (.invokevirtual 34, 3) := by decide +kernel
theorem dX3_extreme_97 : decode cX3_extreme 97 = .ok (.istore 10, 2) := by decide +kernel
theorem dX3_extreme_99 : decode cX3_extreme 99 = .ok (.iload 4, 2) := by decide +kernel
theorem dX3_extreme_101 : decode cX3_extreme 101 = .ok (.ifCond .eq 13, 3) := by decide +kernel
theorem dX3_extreme_104 : decode cX3_extreme 104 = .ok (.iload 7, 2) := by decide +kernel
theorem dX3_extreme_106 : decode cX3_extreme 106 = .ok (.iload 10, 2) := by decide +kernel
theorem dX3_extreme_108 : decode cX3_extreme 108 = .ok (.invokestatic 38, 3) := by decide +kernel
theorem dX3_extreme_111 : decode cX3_extreme 111 = .ok (.goto 10, 3) := by decide +kernel
theorem dX3_extreme_114 : decode cX3_extreme 114 = .ok (.iload 7, 2) := by decide +kernel
theorem dX3_extreme_116 : decode cX3_extreme 116 = .ok (.iload 10, 2) := by decide +kernel
theorem dX3_extreme_118 : decode cX3_extreme 118 = .ok (.invokestatic 43, 3) := by decide +kernel
theorem dX3_extreme_121 : decode cX3_extreme 121 = .ok (.istore 7, 2) := by decide +kernel
theorem dX3_extreme_123 : decode cX3_extreme 123 = .ok (.iinc 8 1, 3) := by decide +kernel
theorem dX3_extreme_126 : decode cX3_extreme 126 = .ok (.goto (-79), 3) := by decide +kernel
theorem dX3_extreme_129 : decode cX3_extreme 129 = .ok (.iload 7, 2) := by decide +kernel
theorem dX3_extreme_131 : decode cX3_extreme 131 = .ok (.ireturn, 1) := by decide +kernel
theorem dX4_init_0 : decode cX4_init 0 = .ok (.aload_n 0, 1) := by decide +kernel
theorem dX4_init_1 : decode cX4_init 1 = .ok (.invokespecial 3, 3) := by decide +kernel
theorem dX4_init_4 : decode cX4_init 4 = .ok (.aload_n 0, 1) := by decide +kernel
theorem dX4_init_5 : decode cX4_init 5 = .ok (.bipush 18, 2) := by decide +kernel
theorem dX4_init_7 : decode cX4_init 7 = .ok (.newarray .boolean, 2) := by decide +kernel
theorem dX4_init_9 : decode cX4_init 9 = .ok (.putfield 11, 3) := by decide +kernel
theorem dX4_init_12 : decode cX4_init 12 = .ok (.aload_n 0, 1) := by decide +kernel
theorem dX4_init_13 : decode cX4_init 13 = .ok (.aload_n 1, 1) := by decide +kernel
theorem dX4_init_14 : decode cX4_init 14 = .ok (.putfield 15, 3) := by decide +kernel
theorem dX4_init_17 : decode cX4_init 17 = .ok (.aload_n 0, 1) := by decide +kernel
theorem dX4_init_18 : decode cX4_init 18 = .ok (.new 19, 3) := by decide +kernel
theorem dX4_init_21 : decode cX4_init 21 = .ok (.dup, 1) := by decide +kernel
theorem dX4_init_22 : decode cX4_init 22 = .ok (.invokespecial 21, 3) := by decide +kernel
theorem dX4_init_25 : decode cX4_init 25 = .ok (.putfield 22, 3) := by decide +kernel
theorem dX4_init_28 : decode cX4_init 28 = .ok (.return_, 1) := by decide +kernel
theorem dX4_read_0 : decode cX4_read 0 = .ok (.aload_n 0, 1) := by decide +kernel
theorem dX4_read_1 : decode cX4_read 1 = .ok (.aload_n 1, 1) := by decide +kernel
theorem dX4_read_2 : decode cX4_read 2 = .ok (.putfield 22, 3) := by decide +kernel
theorem dX4_read_5 : decode cX4_read 5 = .ok (.aload_n 0, 1) := by decide +kernel
theorem dX4_read_6 : decode cX4_read 6 = .ok (.getfield 22, 3) := by decide +kernel
theorem dX4_read_9 : decode cX4_read 9 = .ok (.iconst 0, 1) := by decide +kernel
theorem dX4_read_10 : decode cX4_read 10 = .ok (.putfield 26, 3) := by decide +kernel
theorem dX4_read_13 : decode cX4_read 13 = .ok (.aload_n 0, 1) := by decide +kernel
theorem dX4_read_14 : decode cX4_read 14 = .ok (.iconst 1, 1) := by decide +kernel
theorem dX4_read_15 : decode cX4_read 15 = .ok (.putfield 30, 3) := by decide +kernel
theorem dX4_read_18 : decode cX4_read 18 = .ok (.aload_n 0, 1) := by decide +kernel
theorem dX4_read_19 : decode cX4_read 19 = .ok (.iconst 0, 1) := by decide +kernel
theorem dX4_read_20 : decode cX4_read 20 = .ok (.putfield 34, 3) := by decide +kernel
theorem dX4_read_23 : decode cX4_read 23 = .ok (.aload_n 0, 1) := by decide +kernel
theorem dX4_read_24 : decode cX4_read 24 = .ok (.iconst (-1), 1) := by decide +kernel
theorem dX4_read_25 : decode cX4_read 25 = .ok (.putfield 37, 3) := by decide +kernel
theorem dX4_read_28 : decode cX4_read 28 = .ok (.aload_n 0, 1) := by decide +kernel
theorem dX4_read_29 : decode cX4_read 29 = .ok (.iconst 0, 1) := by decide +kernel
theorem dX4_read_30 : decode cX4_read 30 = .ok (.putfield 40, 3) := by decide +kernel
theorem dX4_read_33 : decode cX4_read 33 = .ok (.iconst 0, 1) := by decide +kernel
theorem dX4_read_34 : decode cX4_read 34 = .ok (.istore_n 2, 1) := by decide +kernel
theorem dX4_read_35 : decode cX4_read 35 = .ok (.iload_n 2, 1) := by decide +kernel
theorem dX4_read_36 : decode cX4_read 36 = .ok (.aload_n 0, 1) := by decide +kernel
theorem dX4_read_37 : decode cX4_read 37 = .ok (.getfield 11, 3) := by decide +kernel
theorem dX4_read_40 : decode cX4_read 40 = .ok (.arraylength, 1) := by decide +kernel
theorem dX4_read_41 : decode cX4_read 41 = .ok (.if_icmp .ge 16, 3) := by decide +kernel
theorem dX4_read_44 : decode cX4_read 44 = .ok (.aload_n 0, 1) := by decide +kernel
theorem dX4_read_45 : decode cX4_read 45 = .ok (.getfield 11, 3) := by decide +kernel
theorem dX4_read_48 : decode cX4_read 48 = .ok (.iload_n 2, 1) := by decide +kernel
theorem dX4_read_49 : decode cX4_read 49 = .ok (.iconst 0, 1) := by decide +kernel
theorem dX4_read_50 : decode cX4_read 50 = .ok (.bastore, 1) := by decide +kernel
theorem dX4_read_51 : decode cX4_read 51 = .ok (.iinc 2 1, 3) := by decide +kernel
theorem dX4_read_54 : decode cX4_read 54 = .ok (.goto (-19), 3) := by decide +kernel
theorem dX4_read_57 : decode cX4_read 57 = .ok (.aload_n 0, 1) := by decide +kernel
theorem dX4_read_58 : decode cX4_read 58 = .ok (.invokevirtual 43, 3) := by decide +kernel
theorem dX4_read_61 : decode cX4_read 61 = .ok (.aload_n 0, 1) := by decide +kernel
theorem dX4_read_62 : decode cX4_read 62 = .ok (.getfield 46, 3) := by decide +kernel
theorem dX4_read_65 : decode cX4_read 65 = .ok (.ifCond .eq 40, 3) := by decide +kernel
theorem dX4_read_68 : decode cX4_read 68 = .ok (.aload_n 0, 1) := by decide +kernel
theorem dX4_read_69 : decode cX4_read 69 = .ok (.getfield 22, 3) := by decide +kernel
theorem dX4_read_72 : decode cX4_read 72 = .ok (.getfield 26, 3) := by decide +kernel
theorem dX4_read_75 : decode cX4_read 75 = .ok (.bipush 20, 2) := by decide +kernel
theorem dX4_read_77 : decode cX4_read 77 = .ok (.if_icmp .gt 28, 3) := by decide +kernel
theorem dX4_read_80 : decode cX4_read 80 = .ok (.aload_n 0, 1) := by decide +kernel
theorem dX4_read_81 : decode cX4_read 81 = .ok (.invokevirtual 49, 3) := by decide +kernel
theorem dX4_read_84 : decode cX4_read 84 = .ok (.ifCond .ne 5, 3) := by decide +kernel
theorem dX4_read_87 : decode cX4_read 87 = .ok (.iconst 0, 1) := by decide +kernel
theorem dX4_read_88 : decode cX4_read 88 = .ok (.ireturn, 1) := by decide +kernel
theorem dX4_read_89 : decode cX4_read 89 = .ok (.aload_n 0, 1) := by decide +kernel
theorem dX4_read_90 : decode cX4_read 90 = .ok (.getfield 22, 3) := by decide +kernel
theorem dX4_read_93 : decode cX4_read 93 = .ok (.dup, 1) := by decide +kernel
theorem dX4_read_94 : decode cX4_read 94 = .ok (.getfield 26, 3) := by decide +kernel
theorem dX4_read_97 : decode cX4_read 97 = .ok (.iconst 1, 1) := by decide +kernel
theorem dX4_read_98 : decode cX4_read 98 = .ok (.iadd, 1) := by decide +kernel
theorem dX4_read_99 : decode cX4_read 99 = .ok (.putfield 26, 3) := by decide +kernel
theorem dX4_read_102 : decode cX4_read 102 = .ok (.goto (-41), 3) := by decide +kernel
theorem dX4_read_105 : decode cX4_read 105 = .ok (.aload_n 0, 1) := by decide +kernel
theorem dX4_read_106 : decode cX4_read 106 = .ok (.getfield 22, 3) := by decide +kernel
theorem dX4_read_109 : decode cX4_read 109 = .ok (.invokevirtual 53, 3) := by decide +kernel
theorem dX4_read_112 : decode cX4_read 112 = .ok (.ifCond .ne 12, 3) := by decide +kernel
theorem dX4_read_115 : decode cX4_read 115 = .ok (.aload_n 0, 1) := by decide +kernel
theorem dX4_read_116 : decode cX4_read 116 = .ok (.bipush 6, 2) := by decide +kernel
theorem dX4_read_118 : decode cX4_read 118 = .ok (.invokevirtual 56, 3) := by decide +kernel
theorem dX4_read_121 : decode cX4_read 121 = .ok (.ifCond .eq 7, 3) := by decide +kernel
theorem dX4_read_124 : decode cX4_read 124 = .ok (.iconst 1, 1) := by decide +kernel
theorem dX4_read_125 : decode cX4_read 125 = .ok (.goto 4, 3) := by decide +kernel
theorem dX4_read_128 : decode cX4_read 128 = .ok (.iconst 0, 1) := by decide +kernel
theorem dX4_read_129 : decode cX4_read 129 = .ok (.ireturn, 1) := by decide +kernel
theorem dX4_clause_0 : decode cX4_clause 0 = .ok (.aload_n 0, 1) := by decide +kernel
theorem dX4_clause_1 : decode cX4_clause 1 = .ok (.ldc 60, 2) := by decide +kernel
theorem dX4_clause_3 : decode cX4_clause 3 = .ok (.invokevirtual 62, 3) := by decide +kernel
theorem dX4_clause_6 : decode cX4_clause 6 = .ok (.ifCond .eq 23, 3) := by decide +kernel
theorem dX4_clause_9 : decode cX4_clause 9 = .ok (.aload_n 0, 1) := by decide +kernel
theorem dX4_clause_10 : decode cX4_clause 10 = .ok (.invokevirtual 66, 3) := by decide +kernel
theorem dX4_clause_13 : decode cX4_clause 13 = .ok (.ifCond .eq 14, 3) := by decide +kernel
theorem dX4_clause_16 : decode cX4_clause 16 = .ok (.aload_n 0, 1) := by decide +kernel
theorem dX4_clause_17 : decode cX4_clause 17 = .ok (.invokevirtual 69, 3) := by decide +kernel
theorem dX4_clause_20 : decode cX4_clause 20 = .ok (.ifCond .eq 7, 3) := by decide +kernel
theorem dX4_clause_23 : decode cX4_clause 23 = .ok (.iconst 1, 1) := by decide +kernel
theorem dX4_clause_24 : decode cX4_clause 24 = .ok (.goto 4, 3) := by decide +kernel
theorem dX4_clause_27 : decode cX4_clause 27 = .ok (.iconst 0, 1) := by decide +kernel
theorem dX4_clause_28 : decode cX4_clause 28 = .ok (.ireturn, 1) := by decide +kernel
theorem dX4_clause_29 : decode cX4_clause 29 = .ok (.aload_n 0, 1) := by decide +kernel
theorem dX4_clause_30 : decode cX4_clause 30 = .ok (.ldc 72, 2) := by decide +kernel
theorem dX4_clause_32 : decode cX4_clause 32 = .ok (.invokevirtual 62, 3) := by decide +kernel
theorem dX4_clause_35 : decode cX4_clause 35 = .ok (.ifCond .eq 23, 3) := by decide +kernel
theorem dX4_clause_38 : decode cX4_clause 38 = .ok (.aload_n 0, 1) := by decide +kernel
theorem dX4_clause_39 : decode cX4_clause 39 = .ok (.invokevirtual 66, 3) := by decide +kernel
theorem dX4_clause_42 : decode cX4_clause 42 = .ok (.ifCond .eq 14, 3) := by decide +kernel
theorem dX4_clause_45 : decode cX4_clause 45 = .ok (.aload_n 0, 1) := by decide +kernel
theorem dX4_clause_46 : decode cX4_clause 46 = .ok (.invokevirtual 74, 3) := by decide +kernel
theorem dX4_clause_49 : decode cX4_clause 49 = .ok (.ifCond .eq 7, 3) := by decide +kernel
theorem dX4_clause_52 : decode cX4_clause 52 = .ok (.iconst 1, 1) := by decide +kernel
theorem dX4_clause_53 : decode cX4_clause 53 = .ok (.goto 4, 3) := by decide +kernel
theorem dX4_clause_56 : decode cX4_clause 56 = .ok (.iconst 0, 1) := by decide +kernel
theorem dX4_clause_57 : decode cX4_clause 57 = .ok (.ireturn, 1) := by decide +kernel
theorem dX4_clause_58 : decode cX4_clause 58 = .ok (.aload_n 0, 1) := by decide +kernel
theorem dX4_clause_59 : decode cX4_clause 59 = .ok (.ldc 77, 2) := by decide +kernel
theorem dX4_clause_61 : decode cX4_clause 61 = .ok (.invokevirtual 62, 3) := by decide +kernel
theorem dX4_clause_64 : decode cX4_clause 64 = .ok (.ifCond .eq 36, 3) := by decide +kernel
theorem dX4_clause_67 : decode cX4_clause 67 = .ok (.aload_n 0, 1) := by decide +kernel
theorem dX4_clause_68 : decode cX4_clause 68 = .ok (.invokevirtual 66, 3) := by decide +kernel
theorem dX4_clause_71 : decode cX4_clause 71 = .ok (.ifCond .eq 27, 3) := by decide +kernel
theorem dX4_clause_74 : decode cX4_clause 74 = .ok (.aload_n 0, 1) := by decide +kernel
theorem dX4_clause_75 : decode cX4_clause 75 = .ok (.invokevirtual 79, 3) := by decide +kernel
theorem dX4_clause_78 : decode cX4_clause 78 = .ok (.ifCond .eq 20, 3) := by decide +kernel
theorem dX4_clause_81 : decode cX4_clause 81 = .ok (.aload_n 0, 1) := by decide +kernel
theorem dX4_clause_82 : decode cX4_clause 82 = .ok (.iconst 2, 1) := by decide +kernel
theorem dX4_clause_83 : decode cX4_clause 83 = .ok (.aload_n 0, 1) := by decide +kernel
theorem dX4_clause_84 : decode cX4_clause 84 = .ok (.getfield 82, 3) := by decide +kernel
theorem dX4_clause_87 : decode cX4_clause 87 = .ok (.iadd, 1) := by decide +kernel
theorem dX4_clause_88 : decode cX4_clause 88 = .ok (.invokevirtual 85, 3) := by decide +kernel
theorem dX4_clause_91 : decode cX4_clause 91 = .ok (.ifCond .eq 7, 3) := by decide +kernel
theorem dX4_clause_94 : decode cX4_clause 94 = .ok (.iconst 1, 1) := by decide +kernel
theorem dX4_clause_95 : decode cX4_clause 95 = .ok (.goto 4, 3) := by decide +kernel
theorem dX4_clause_98 : decode cX4_clause 98 = .ok (.iconst 0, 1) := by decide +kernel
theorem dX4_clause_99 : decode cX4_clause 99 = .ok (.ireturn, 1) := by decide +kernel
theorem dX4_clause_100 : decode cX4_clause 100 = .ok (.aload_n 0, 1) := by decide +kernel
theorem dX4_clause_101 : decode cX4_clause 101 = .ok (.ldc 88, 2) := by decide +kernel
theorem dX4_clause_103 : decode cX4_clause 103 = .ok (.invokevirtual 62, 3) := by decide +kernel
theorem dX4_clause_106 : decode cX4_clause 106 = .ok (.ifCond .eq 33, 3) := by decide +kernel
theorem dX4_clause_109 : decode cX4_clause 109 = .ok (.aload_n 0, 1) := by decide +kernel
theorem dX4_clause_110 : decode cX4_clause 110 = .ok (.bipush 11, 2) := by decide +kernel
theorem dX4_clause_112 : decode cX4_clause 112 = .ok (.invokevirtual 90, 3) := by decide +kernel
theorem dX4_clause_115 : decode cX4_clause 115 = .ok (.ifCond .eq 22, 3) := by decide +kernel
theorem dX4_clause_118 : decode cX4_clause 118 = .ok (.aload_n 0, 1) := by decide +kernel
theorem dX4_clause_119 : decode cX4_clause 119 = .ok (.invokevirtual 66, 3) := by decide +kernel
theorem dX4_clause_122 : decode cX4_clause 122 = .ok (.ifCond .eq 15, 3) := by decide +kernel
theorem dX4_clause_125 : decode cX4_clause 125 = .ok (.aload_n 0, 1) := by decide +kernel
theorem dX4_clause_126 : decode cX4_clause 126 = .ok (.iconst 0, 1) := by decide +kernel
theorem dX4_clause_127 : decode cX4_clause 127 = .ok (.invokevirtual 85, 3) := by decide +kernel
theorem dX4_clause_130 : decode cX4_clause 130 = .ok (.ifCond .eq 7, 3) := by decide +kernel
theorem dX4_clause_133 : decode cX4_clause 133 = .ok (.iconst 1, 1) := by decide +kernel
theorem dX4_clause_134 : decode cX4_clause 134 = .ok (.goto 4, 3) := by decide +kernel
theorem dX4_clause_137 : decode cX4_clause 137 = .ok (.iconst 0, 1) := by decide +kernel
theorem dX4_clause_138 : decode cX4_clause 138 = .ok (.ireturn, 1) := by decide +kernel
theorem dX4_clause_139 : decode cX4_clause 139 = .ok (.aload_n 0, 1) := by decide +kernel
theorem dX4_clause_140 : decode cX4_clause 140 = .ok (.ldc 93, 2) := by decide +kernel
theorem dX4_clause_142 : decode cX4_clause 142 = .ok (.invokevirtual 62, 3) := by decide +kernel
theorem dX4_clause_145 : decode cX4_clause 145 = .ok (.ifCond .eq 33, 3) := by decide +kernel
theorem dX4_clause_148 : decode cX4_clause 148 = .ok (.aload_n 0, 1) := by decide +kernel
theorem dX4_clause_149 : decode cX4_clause 149 = .ok (.bipush 12, 2) := by decide +kernel
theorem dX4_clause_151 : decode cX4_clause 151 = .ok (.invokevirtual 90, 3) := by decide +kernel
theorem dX4_clause_154 : decode cX4_clause 154 = .ok (.ifCond .eq 22, 3) := by decide +kernel
theorem dX4_clause_157 : decode cX4_clause 157 = .ok (.aload_n 0, 1) := by decide +kernel
theorem dX4_clause_158 : decode cX4_clause 158 = .ok (.invokevirtual 66, 3) := by decide +kernel
theorem dX4_clause_161 : decode cX4_clause 161 = .ok (.ifCond .eq 15, 3) := by decide +kernel
theorem dX4_clause_164 : decode cX4_clause 164 = .ok (.aload_n 0, 1) := by decide +kernel
theorem dX4_clause_165 : decode cX4_clause 165 = .ok (.iconst 1, 1) := by decide +kernel
theorem dX4_clause_166 : decode cX4_clause 166 = .ok (.invokevirtual 85, 3) := by decide +kernel
theorem dX4_clause_169 : decode cX4_clause 169 = .ok (.ifCond .eq 7, 3) := by decide +kernel
theorem dX4_clause_172 : decode cX4_clause 172 = .ok (.iconst 1, 1) := by decide +kernel
theorem dX4_clause_173 : decode cX4_clause 173 = .ok (.goto 4, 3) := by decide +kernel
theorem dX4_clause_176 : decode cX4_clause 176 = .ok (.iconst 0, 1) := by decide +kernel
theorem dX4_clause_177 : decode cX4_clause 177 = .ok (.ireturn, 1) := by decide +kernel
theorem dX4_clause_178 : decode cX4_clause 178 = .ok (.aload_n 0, 1) := by decide +kernel
theorem dX4_clause_179 : decode cX4_clause 179 = .ok (.iconst 1, 1) := by decide +kernel
theorem dX4_clause_180 : decode cX4_clause 180 = .ok (.invokevirtual 56, 3) := by decide +kernel
theorem dX4_clause_183 : decode cX4_clause 183 = .ok (.ireturn, 1) := by decide +kernel
theorem dX4_hasRoom_0 : decode cX4_hasRoom 0 = .ok (.aload_n 0, 1) := by decide +kernel
theorem dX4_hasRoom_1 : decode cX4_hasRoom 1 = .ok (.getfield 22, 3) := by decide +kernel
theorem dX4_hasRoom_4 : decode cX4_hasRoom 4 = .ok (.getfield 26, 3) := by decide +kernel
theorem dX4_hasRoom_7 : decode cX4_hasRoom 7 = .ok (.bipush 20, 2) := by decide +kernel
theorem dX4_hasRoom_9 : decode cX4_hasRoom 9 = .ok (.if_icmp .lt 11, 3) := by decide +kernel
theorem dX4_hasRoom_12 : decode cX4_hasRoom 12 = .ok (.aload_n 0, 1) := by decide +kernel
theorem dX4_hasRoom_13 : decode cX4_hasRoom 13 = .ok (.iconst 5, 1) := by decide +kernel
theorem dX4_hasRoom_14 : decode cX4_hasRoom 14 = .ok (.invokevirtual 56, 3) := by decide +kernel
theorem dX4_hasRoom_17 : decode cX4_hasRoom 17 = .ok (.ifCond .eq 7, 3) := by decide +kernel
theorem dX4_hasRoom_20 : decode cX4_hasRoom 20 = .ok (.iconst 1, 1) := by decide +kernel
theorem dX4_hasRoom_21 : decode cX4_hasRoom 21 = .ok (.goto 4, 3) := by decide +kernel
theorem dX4_hasRoom_24 : decode cX4_hasRoom 24 = .ok (.iconst 0, 1) := by decide +kernel
theorem dX4_hasRoom_25 : decode cX4_hasRoom 25 = .ok (.ireturn, 1) := by decide +kernel
theorem dX4_kindClause_0 : decode cX4_kindClause 0 = .ok (.aload_n 0, 1) := by decide +kernel
theorem dX4_kindClause_1 : decode cX4_kindClause 1 = .ok (.invokevirtual 43, 3) := by decide +kernel
theorem dX4_kindClause_4 : decode cX4_kindClause 4 = .ok (.aload_n 0, 1) := by decide +kernel
theorem dX4_kindClause_5 : decode cX4_kindClause 5 = .ok (.invokevirtual 95, 3) := by decide +kernel
theorem dX4_kindClause_8 : decode cX4_kindClause 8 = .ok (.ifCond .eq 14, 3) := by decide +kernel
theorem dX4_kindClause_11 : decode cX4_kindClause 11 = .ok (.aload_n 0, 1) := by decide +kernel
theorem dX4_kindClause_12 : decode cX4_kindClause 12 = .ok (.aload_n 0, 1) := by decide +kernel
theorem dX4_kindClause_13 : decode cX4_kindClause 13 = .ok (.getfield 82, 3) := by decide +kernel
theorem dX4_kindClause_16 : decode cX4_kindClause 16 = .ok (.invokevirtual 90, 3) := by decide +kernel
theorem dX4_kindClause_19 : decode cX4_kindClause 19 = .ok (.ifCond .ne 5, 3) := by decide +kernel
theorem dX4_kindClause_22 : decode cX4_kindClause 22 = .ok (.iconst 0, 1) := by decide +kernel
theorem dX4_kindClause_23 : decode cX4_kindClause 23 = .ok (.ireturn, 1) := by decide +kernel
theorem dX4_kindClause_24 : decode cX4_kindClause 24 = .ok (.aload_n 0, 1) := by decide +kernel
theorem dX4_kindClause_25 : decode cX4_kindClause 25 = .ok (.getfield 82, 3) := by decide +kernel
theorem dX4_kindClause_28 : decode cX4_kindClause 28 = .ok (.istore_n 1, 1) := by decide +kernel
theorem dX4_kindClause_29 : decode cX4_kindClause 29 = .ok (.aload_n 0, 1) := by decide +kernel
theorem dX4_kindClause_30 : decode cX4_kindClause 30 = .ok (.invokevirtual 43, 3) := by decide +kernel
theorem dX4_kindClause_33 : decode cX4_kindClause 33 = .ok (.aload_n 0, 1) := by decide +kernel
theorem dX4_kindClause_34 : decode cX4_kindClause 34 = .ok (.iconst 1, 1) := by decide +kernel
theorem dX4_kindClause_35 : decode cX4_kindClause 35 = .ok (.bipush 99, 2) := by decide +kernel
theorem dX4_kindClause_37 : decode cX4_kindClause 37 = .ok (.invokevirtual 98, 3) := by decide +kernel
theorem dX4_kindClause_40 : decode cX4_kindClause 40 = .ok (.ifCond .ne 5, 3) := by decide +kernel
theorem dX4_kindClause_43 : decode cX4_kindClause 43 = .ok (.iconst 0, 1) := by decide +kernel
theorem dX4_kindClause_44 : decode cX4_kindClause 44 = .ok (.ireturn, 1) := by decide +kernel
theorem dX4_kindClause_45 : decode cX4_kindClause 45 = .ok (.aload_n 0, 1) := by decide +kernel
theorem dX4_kindClause_46 : decode cX4_kindClause 46 = .ok (.getfield 22, 3) := by decide +kernel
theorem dX4_kindClause_49 : decode cX4_kindClause 49 = .ok (.getfield 102, 3) := by decide +kernel
theorem dX4_kindClause_52 : decode cX4_kindClause 52 = .ok (.iload_n 1, 1) := by decide +kernel
theorem dX4_kindClause_53 : decode cX4_kindClause 53 = .ok (.aload_n 0, 1) := by decide +kernel
theorem dX4_kindClause_54 : decode cX4_kindClause 54 = .ok (.getfield 106, 3) := by decide +kernel
theorem dX4_kindClause_57 : decode cX4_kindClause 57 = .ok (.iastore, 1) := by decide +kernel
theorem dX4_kindClause_58 : decode cX4_kindClause 58 = .ok (.aload_n 0, 1) := by decide +kernel
theorem dX4_kindClause_59 : decode cX4_kindClause 59 = .ok (.bipush 59, 2) := by decide +kernel
theorem dX4_kindClause_61 : decode cX4_kindClause 61 = .ok (.invokevirtual 109, 3) := by decide +kernel
theorem dX4_kindClause_64 : decode cX4_kindClause 64 = .ok (.ireturn, 1) := by decide +kernel
theorem dX4_chainClause_0 : decode cX4_chainClause 0 = .ok (.aload_n 0, 1) := by decide +kernel
theorem dX4_chainClause_1 : decode cX4_chainClause 1 = .ok (.invokevirtual 43, 3) := by decide +kernel
theorem dX4_chainClause_4 : decode cX4_chainClause 4 = .ok (.aload_n 0, 1) := by decide +kernel
theorem dX4_chainClause_5 : decode cX4_chainClause 5 = .ok (.iconst 0, 1) := by decide +kernel
theorem dX4_chainClause_6 : decode cX4_chainClause 6 = .ok (.iconst 4, 1) := by decide +kernel
theorem dX4_chainClause_7 : decode cX4_chainClause 7 = .ok (.invokevirtual 112, 3) := by decide +kernel
theorem dX4_chainClause_10 : decode cX4_chainClause 10 = .ok (.ifCond .eq 17, 3) := by decide +kernel
theorem dX4_chainClause_13 : decode cX4_chainClause 13 = .ok (.aload_n 0, 1) := by decide +kernel
theorem dX4_chainClause_14 : decode cX4_chainClause 14 = .ok (.bipush 6, 2) := by decide +kernel
theorem dX4_chainClause_16 : decode cX4_chainClause 16 = .ok (.aload_n 0, 1) := by decide +kernel
theorem dX4_chainClause_17 : decode cX4_chainClause 17 = .ok (.getfield 82, 3) := by decide +kernel
theorem dX4_chainClause_20 : decode cX4_chainClause 20 = .ok (.iadd, 1) := by decide +kernel
theorem dX4_chainClause_21 : decode cX4_chainClause 21 = .ok (.invokevirtual 90, 3) := by decide +kernel
theorem dX4_chainClause_24 : decode cX4_chainClause 24 = .ok (.ifCond .ne 5, 3) := by decide +kernel
theorem dX4_chainClause_27 : decode cX4_chainClause 27 = .ok (.iconst 0, 1) := by decide +kernel
theorem dX4_chainClause_28 : decode cX4_chainClause 28 = .ok (.ireturn, 1) := by decide +kernel
theorem dX4_chainClause_29 : decode cX4_chainClause 29 = .ok (.aload_n 0, 1) := by decide +kernel
theorem dX4_chainClause_30 : decode cX4_chainClause 30 = .ok (.getfield 82, 3) := by decide +kernel
theorem dX4_chainClause_33 : decode cX4_chainClause 33 = .ok (.iconst 5, 1) := by decide +kernel
theorem dX4_chainClause_34 : decode cX4_chainClause 34 = .ok (.imul, 1) := by decide +kernel
theorem dX4_chainClause_35 : decode cX4_chainClause 35 = .ok (.istore_n 1, 1) := by decide +kernel
theorem dX4_chainClause_36 : decode cX4_chainClause 36 = .ok (.aload_n 0, 1) := by decide +kernel
theorem dX4_chainClause_37 : decode cX4_chainClause 37 = .ok (.invokevirtual 43, 3) := by decide +kernel
theorem dX4_chainClause_40 : decode cX4_chainClause 40 = .ok (.aload_n 0, 1) := by decide +kernel
theorem dX4_chainClause_41 : decode cX4_chainClause 41 = .ok (.iconst (-1), 1) := by decide +kernel
theorem dX4_chainClause_42 : decode cX4_chainClause 42 = .ok (.invokevirtual 115, 3) := by decide +kernel
theorem dX4_chainClause_45 : decode cX4_chainClause 45 = .ok (.ifCond .ne 5, 3) := by decide +kernel
theorem dX4_chainClause_48 : decode cX4_chainClause 48 = .ok (.iconst 0, 1) := by decide +kernel
theorem dX4_chainClause_49 : decode cX4_chainClause 49 = .ok (.ireturn, 1) := by decide +kernel
theorem dX4_chainClause_50 : decode cX4_chainClause 50 = .ok (.aload_n 0, 1) := by decide +kernel
theorem dX4_chainClause_51 : decode cX4_chainClause 51 = .ok (.getfield 106, 3) := by decide +kernel
theorem dX4_chainClause_54 : decode cX4_chainClause 54 = .ok (.istore_n 2, 1) := by decide +kernel
theorem dX4_chainClause_55 : decode cX4_chainClause 55 = .ok (.aload_n 0, 1) := by decide +kernel
theorem dX4_chainClause_56 : decode cX4_chainClause 56 = .ok (.getfield 22, 3) := by decide +kernel
theorem dX4_chainClause_59 : decode cX4_chainClause 59 = .ok (.getfield 118, 3) := by decide +kernel
theorem dX4_chainClause_62 : decode cX4_chainClause 62 = .ok (.iload_n 1, 1) := by decide +kernel
theorem dX4_chainClause_63 : decode cX4_chainClause 63 = .ok (.iconst 0, 1) := by decide +kernel
theorem dX4_chainClause_64 : decode cX4_chainClause 64 = .ok (.iadd, 1) := by decide +kernel
theorem dX4_chainClause_65 : decode cX4_chainClause 65 = .ok (.iload_n 2, 1) := by decide +kernel
theorem dX4_chainClause_66 : decode cX4_chainClause 66 = .ok (.iastore, 1) := by decide +kernel
theorem dX4_chainClause_67 : decode cX4_chainClause 67 = .ok (.aload_n 0, 1) := by decide +kernel
theorem dX4_chainClause_68 : decode cX4_chainClause 68 = .ok (.iconst 1, 1) := by decide +kernel
theorem dX4_chainClause_69 : decode cX4_chainClause 69 = .ok (.bipush 9, 2) := by decide +kernel
theorem dX4_chainClause_71 : decode cX4_chainClause 71 = .ok (.invokevirtual 98, 3) := by decide +kernel
theorem dX4_chainClause_74 : decode cX4_chainClause 74 = .ok (.ifCond .ne 5, 3) := by decide +kernel
theorem dX4_chainClause_77 : decode cX4_chainClause 77 = .ok (.iconst 0, 1) := by decide +kernel
theorem dX4_chainClause_78 : decode cX4_chainClause 78 = .ok (.ireturn, 1) := by decide +kernel
theorem dX4_chainClause_79 : decode cX4_chainClause 79 = .ok (.aload_n 0, 1) := by decide +kernel
theorem dX4_chainClause_80 : decode cX4_chainClause 80 = .ok (.getfield 22, 3) := by decide +kernel
theorem dX4_chainClause_83 : decode cX4_chainClause 83 = .ok (.getfield 118, 3) := by decide +kernel
theorem dX4_chainClause_86 : decode cX4_chainClause 86 = .ok (.iload_n 1, 1) := by decide +kernel
theorem dX4_chainClause_87 : decode cX4_chainClause 87 = .ok (.iconst 1, 1) := by decide +kernel
theorem dX4_chainClause_88 : decode cX4_chainClause 88 = .ok (.iadd, 1) := by decide +kernel
theorem dX4_chainClause_89 : decode cX4_chainClause 89 = .ok (.aload_n 0, 1) := by decide +kernel
theorem dX4_chainClause_90 : decode cX4_chainClause 90 = .ok (.getfield 106, 3) := by decide +kernel
theorem dX4_chainClause_93 : decode cX4_chainClause 93 = .ok (.iastore, 1) := by decide +kernel
theorem dX4_chainClause_94 : decode cX4_chainClause 94 = .ok (.aload_n 0, 1) := by decide +kernel
theorem dX4_chainClause_95 : decode cX4_chainClause 95 = .ok (.ldc 121, 2) := by decide +kernel
theorem dX4_chainClause_97 : decode cX4_chainClause 97 = .ok (.invokevirtual 123, 3) := by decide +kernel
theorem dX4_chainClause_100 : decode cX4_chainClause 100 = .ok (.ifCond .eq 11, 3) := by decide +kernel
theorem dX4_chainClause_103 : decode cX4_chainClause 103 = .ok (.aload_n 0, 1) := by decide +kernel
theorem dX4_chainClause_104 : decode cX4_chainClause 104 = .ok (.iload_n 2, 1) := by decide +kernel
theorem dX4_chainClause_105 : decode cX4_chainClause 105 = .ok (.invokevirtual 115, 3) := by decide +kernel
theorem dX4_chainClause_108 : decode cX4_chainClause 108 = .ok (.ifCond .ne 5, 3) := by decide +kernel
theorem dX4_chainClause_111 : decode cX4_chainClause 111 = .ok (.iconst 0, 1) := by decide +kernel
theorem dX4_chainClause_112 : decode cX4_chainClause 112 = .ok (.ireturn, 1) := by decide +kernel
theorem dX4_chainClause_113 : decode cX4_chainClause 113 = .ok (.aload_n 0, 1) := by decide +kernel
theorem dX4_chainClause_114 : decode cX4_chainClause 114 = .ok (.getfield 22, 3) := by decide +kernel
theorem dX4_chainClause_117 : decode cX4_chainClause 117 = .ok (.getfield 118, 3) := by decide +kernel
theorem dX4_chainClause_120 : decode cX4_chainClause 120 = .ok (.iload_n 1, 1) := by decide +kernel
theorem dX4_chainClause_121 : decode cX4_chainClause 121 = .ok (.iconst 2, 1) := by decide +kernel
theorem dX4_chainClause_122 : decode cX4_chainClause 122 = .ok (.iadd, 1) := by decide +kernel
theorem dX4_chainClause_123 : decode cX4_chainClause 123 = .ok (.aload_n 0, 1) := by decide +kernel
theorem dX4_chainClause_124 : decode cX4_chainClause 124 = .ok (.getfield 106, 3) := by decide +kernel
theorem dX4_chainClause_127 : decode cX4_chainClause 127 = .ok (.iastore, 1) := by decide +kernel
theorem dX4_chainClause_128 : decode cX4_chainClause 128 = .ok (.aload_n 0, 1) := by decide +kernel
theorem dX4_chainClause_129 : decode cX4_chainClause 129 = .ok (.iconst 1, 1) := by decide +kernel
theorem dX4_chainClause_130 : decode cX4_chainClause 130 = .ok (.bipush 9, 2) := by decide +kernel
theorem dX4_chainClause_132 : decode cX4_chainClause 132 = .ok (.invokevirtual 98, 3) := by decide +kernel
theorem dX4_chainClause_135 : decode cX4_chainClause 135 = .ok (.ifCond .ne 5, 3) := by decide +kernel
theorem dX4_chainClause_138 : decode cX4_chainClause 138 = .ok (.iconst 0, 1) := by decide +kernel
theorem dX4_chainClause_139 : decode cX4_chainClause 139 = .ok (.ireturn, 1) := by decide +kernel
theorem dX4_chainClause_140 : decode cX4_chainClause 140 = .ok (.aload_n 0, 1) := by decide +kernel
theorem dX4_chainClause_141 : decode cX4_chainClause 141 = .ok (.getfield 22, 3) := by decide +kernel
theorem dX4_chainClause_144 : decode cX4_chainClause 144 = .ok (.getfield 118, 3) := by decide +kernel
theorem dX4_chainClause_147 : decode cX4_chainClause 147 = .ok (.iload_n 1, 1) := by decide +kernel
theorem dX4_chainClause_148 : decode cX4_chainClause 148 = .ok (.iconst 3, 1) := by decide +kernel
theorem dX4_chainClause_149 : decode cX4_chainClause 149 = .ok (.iadd, 1) := by decide +kernel
theorem dX4_chainClause_150 : decode cX4_chainClause 150 = .ok (.aload_n 0, 1) := by decide +kernel
theorem dX4_chainClause_151 : decode cX4_chainClause 151 = .ok (.getfield 106, 3) := by decide +kernel
theorem dX4_chainClause_154 : decode cX4_chainClause 154 = .ok (.iastore, 1) := by decide +kernel
theorem dX4_chainClause_155 : decode cX4_chainClause 155 = .ok (.aload_n 0, 1) := by decide +kernel
theorem dX4_chainClause_156 : decode cX4_chainClause 156 = .ok (.ldc 126, 2) := by decide +kernel
theorem dX4_chainClause_158 : decode cX4_chainClause 158 = .ok (.invokevirtual 123, 3) := by decide +kernel
theorem dX4_chainClause_161 : decode cX4_chainClause 161 = .ok (.ifCond .eq 14, 3) := by decide +kernel
theorem dX4_chainClause_164 : decode cX4_chainClause 164 = .ok (.aload_n 0, 1) := by decide +kernel
theorem dX4_chainClause_165 : decode cX4_chainClause 165 = .ok (.iconst 0, 1) := by decide +kernel
theorem dX4_chainClause_166 : decode cX4_chainClause 166 = .ok (.sipush 999, 3) := by decide +kernel
theorem dX4_chainClause_169 : decode cX4_chainClause 169 = .ok (.invokevirtual 98, 3) := by decide +kernel
theorem dX4_chainClause_172 : decode cX4_chainClause 172 = .ok (.ifCond .ne 5, 3) := by decide +kernel
theorem dX4_chainClause_175 : decode cX4_chainClause 175 = .ok (.iconst 0, 1) := by decide +kernel
theorem dX4_chainClause_176 : decode cX4_chainClause 176 = .ok (.ireturn, 1) := by decide +kernel
theorem dX4_chainClause_177 : decode cX4_chainClause 177 = .ok (.aload_n 0, 1) := by decide +kernel
theorem dX4_chainClause_178 : decode cX4_chainClause 178 = .ok (.getfield 22, 3) := by decide +kernel
theorem dX4_chainClause_181 : decode cX4_chainClause 181 = .ok (.getfield 118, 3) := by decide +kernel
theorem dX4_chainClause_184 : decode cX4_chainClause 184 = .ok (.iload_n 1, 1) := by decide +kernel
theorem dX4_chainClause_185 : decode cX4_chainClause 185 = .ok (.iconst 4, 1) := by decide +kernel
theorem dX4_chainClause_186 : decode cX4_chainClause 186 = .ok (.iadd, 1) := by decide +kernel
theorem dX4_chainClause_187 : decode cX4_chainClause 187 = .ok (.aload_n 0, 1) := by decide +kernel
theorem dX4_chainClause_188 : decode cX4_chainClause 188 = .ok (.getfield 106, 3) := by decide +kernel
theorem dX4_chainClause_191 : decode cX4_chainClause 191 = .ok (.iastore, 1) := by decide +kernel
theorem dX4_chainClause_192 : decode cX4_chainClause 192 = .ok (.aload_n 0, 1) := by decide +kernel
theorem dX4_chainClause_193 : decode cX4_chainClause 193 = .ok (.bipush 59, 2) := by decide +kernel
theorem dX4_chainClause_195 : decode cX4_chainClause 195 = .ok (.invokevirtual 109, 3) := by decide +kernel
theorem dX4_chainClause_198 : decode cX4_chainClause 198 = .ok (.ireturn, 1) := by decide +kernel
theorem dX4_rateNumber_0 : decode cX4_rateNumber 0 = .ok (.aload_n 0, 1) := by decide +kernel
theorem dX4_rateNumber_1 : decode cX4_rateNumber 1 = .ok (.invokevirtual 43, 3) := by decide +kernel
theorem dX4_rateNumber_4 : decode cX4_rateNumber 4 = .ok (.aload_n 0, 1) := by decide +kernel
theorem dX4_rateNumber_5 : decode cX4_rateNumber 5 = .ok (.iconst 0, 1) := by decide +kernel
theorem dX4_rateNumber_6 : decode cX4_rateNumber 6 = .ok (.iconst 4, 1) := by decide +kernel
theorem dX4_rateNumber_7 : decode cX4_rateNumber 7 = .ok (.invokevirtual 112, 3) := by decide +kernel
theorem dX4_rateNumber_10 : decode cX4_rateNumber 10 = .ok (.ifCond .eq 21, 3) := by decide +kernel
theorem dX4_rateNumber_13 : decode cX4_rateNumber 13 = .ok (.aload_n 0, 1) := by decide +kernel
theorem dX4_rateNumber_14 : decode cX4_rateNumber 14 = .ok (.bipush 13, 2) := by decide +kernel
theorem dX4_rateNumber_16 : decode cX4_rateNumber 16 = .ok (.aload_n 0, 1) := by decide +kernel
theorem dX4_rateNumber_17 : decode cX4_rateNumber 17 = .ok (.getfield 82, 3) := by decide +kernel
theorem dX4_rateNumber_20 : decode cX4_rateNumber 20 = .ok (.iadd, 1) := by decide +kernel
theorem dX4_rateNumber_21 : decode cX4_rateNumber 21 = .ok (.invokevirtual 90, 3) := by decide +kernel
theorem dX4_rateNumber_24 : decode cX4_rateNumber 24 = .ok (.ifCond .eq 7, 3) := by decide +kernel
theorem dX4_rateNumber_27 : decode cX4_rateNumber 27 = .ok (.iconst 1, 1) := by decide +kernel
theorem dX4_rateNumber_28 : decode cX4_rateNumber 28 = .ok (.goto 4, 3) := by decide +kernel
theorem dX4_rateNumber_31 : decode cX4_rateNumber 31 = .ok (.iconst 0, 1) := by decide +kernel
theorem dX4_rateNumber_32 : decode cX4_rateNumber 32 = .ok (.ireturn, 1) := by decide +kernel
theorem dX4_tableClause_0 : decode cX4_tableClause 0 = .ok (.aload_n 0, 1) := by decide +kernel
theorem dX4_tableClause_1 : decode cX4_tableClause 1 = .ok (.invokevirtual 43, 3) := by decide +kernel
theorem dX4_tableClause_4 : decode cX4_tableClause 4 = .ok (.aload_n 0, 1) := by decide +kernel
theorem dX4_tableClause_5 : decode cX4_tableClause 5 = .ok (.getfield 22, 3) := by decide +kernel
theorem dX4_tableClause_8 : decode cX4_tableClause 8 = .ok (.getfield 128, 3) := by decide +kernel
theorem dX4_tableClause_11 : decode cX4_tableClause 11 = .ok (.iload_n 1, 1) := by decide +kernel
theorem dX4_tableClause_12 : decode cX4_tableClause 12 = .ok (.iconst 0, 1) := by decide +kernel
theorem dX4_tableClause_13 : decode cX4_tableClause 13 = .ok (.iastore, 1) := by decide +kernel
theorem dX4_tableClause_14 : decode cX4_tableClause 14 = .ok (.iconst 0, 1) := by decide +kernel
theorem dX4_tableClause_15 : decode cX4_tableClause 15 = .ok (.istore_n 2, 1) := by decide +kernel
theorem dX4_tableClause_16 : decode cX4_tableClause 16 = .ok (.iconst 0, 1) := by decide +kernel
theorem dX4_tableClause_17 : decode cX4_tableClause 17 = .ok (.istore_n 3, 1) := by decide +kernel
theorem dX4_tableClause_18 : decode cX4_tableClause 18 = .ok (.iload_n 3, 1) := by decide +kernel
theorem dX4_tableClause_19 : decode cX4_tableClause 19 = .ok (.bipush 8, 2) := by decide +kernel
theorem dX4_tableClause_21 : decode cX4_tableClause 21 = .ok (.if_icmp .ge 124, 3) := by decide +kernel
theorem dX4_tableClause_24 : decode cX4_tableClause 24 = .ok (.aload_n 0, 1) := by decide +kernel
theorem dX4_tableClause_25 : decode cX4_tableClause 25 = .ok (.iload_n 2, 1) := by decide +kernel
theorem dX4_tableClause_26 : decode cX4_tableClause 26 = .ok (.sipush 999, 3) := by decide +kernel
theorem dX4_tableClause_29 : decode cX4_tableClause 29 = .ok (.invokevirtual 112, 3) := by decide +kernel
theorem dX4_tableClause_32 : decode cX4_tableClause 32 = .ok (.ifCond .ne 5, 3) := by decide +kernel
theorem dX4_tableClause_35 : decode cX4_tableClause 35 = .ok (.iconst 0, 1) := by decide +kernel
theorem dX4_tableClause_36 : decode cX4_tableClause 36 = .ok (.ireturn, 1) := by decide +kernel
theorem dX4_tableClause_37 : decode cX4_tableClause 37 = .ok (.aload_n 0, 1) := by decide +kernel
theorem dX4_tableClause_38 : decode cX4_tableClause 38 = .ok (.getfield 82, 3) := by decide +kernel
theorem dX4_tableClause_41 : decode cX4_tableClause 41 = .ok (.istore 4, 2) := by decide +kernel
theorem dX4_tableClause_43 : decode cX4_tableClause 43 = .ok (.aload_n 0, 1) := by decide +kernel
theorem dX4_tableClause_44 : decode cX4_tableClause 44 = .ok (.invokevirtual 43, 3) := by decide +kernel
theorem dX4_tableClause_47 : decode cX4_tableClause 47 = .ok (.aload_n 0, 1) := by decide +kernel
theorem dX4_tableClause_48 : decode cX4_tableClause 48 = .ok (.bipush 61, 2) := by decide +kernel
theorem dX4_tableClause_50 : decode cX4_tableClause 50 = .ok (.invokevirtual 109, 3) := by decide +kernel
theorem dX4_tableClause_53 : decode cX4_tableClause 53 = .ok (.ifCond .eq 14, 3) := by decide +kernel
theorem dX4_tableClause_56 : decode cX4_tableClause 56 = .ok (.aload_n 0, 1) := by decide +kernel
theorem dX4_tableClause_57 : decode cX4_tableClause 57 = .ok (.iconst 0, 1) := by decide +kernel
theorem dX4_tableClause_58 : decode cX4_tableClause 58 = .ok (.sipush 9999, 3) := by decide +kernel
theorem dX4_tableClause_61 : decode cX4_tableClause 61 = .ok (.invokevirtual 98, 3) := by decide +kernel
theorem dX4_tableClause_64 : decode cX4_tableClause 64 = .ok (.ifCond .ne 5, 3) := by decide +kernel
theorem dX4_tableClause_67 : decode cX4_tableClause 67 = .ok (.iconst 0, 1) := by decide +kernel
theorem dX4_tableClause_68 : decode cX4_tableClause 68 = .ok (.ireturn, 1) := by decide +kernel
theorem dX4_tableClause_69 : decode cX4_tableClause 69 = .ok (.aload_n 0, 1) := by decide +kernel
theorem dX4_tableClause_70 : decode cX4_tableClause 70 = .ok (.getfield 106, 3) := by decide +kernel
theorem dX4_tableClause_73 : decode cX4_tableClause 73 = .ok (.istore 5, 2) := by decide +kernel
theorem dX4_tableClause_75 : decode cX4_tableClause 75 = .ok (.aload_n 0, 1) := by decide +kernel
theorem dX4_tableClause_76 : decode cX4_tableClause 76 = .ok (.ldc 121, 2) := by decide +kernel
theorem dX4_tableClause_78 : decode cX4_tableClause 78 = .ok (.invokevirtual 123, 3) := by decide +kernel
theorem dX4_tableClause_81 : decode cX4_tableClause 81 = .ok (.ifCond .eq 15, 3) := by decide +kernel
theorem dX4_tableClause_84 : decode cX4_tableClause 84 = .ok (.aload_n 0, 1) := by decide +kernel
theorem dX4_tableClause_85 : decode cX4_tableClause 85 = .ok (.iload 5, 2) := by decide +kernel
theorem dX4_tableClause_87 : decode cX4_tableClause 87 = .ok (.sipush 9999, 3) := by decide +kernel
theorem dX4_tableClause_90 : decode cX4_tableClause 90 = .ok (.invokevirtual 98, 3) := by decide +kernel
theorem dX4_tableClause_93 : decode cX4_tableClause 93 = .ok (.ifCond .ne 5, 3) := by decide +kernel
theorem dX4_tableClause_96 : decode cX4_tableClause 96 = .ok (.iconst 0, 1) := by decide +kernel
theorem dX4_tableClause_97 : decode cX4_tableClause 97 = .ok (.ireturn, 1) := by decide +kernel
theorem dX4_tableClause_98 : decode cX4_tableClause 98 = .ok (.aload_n 0, 1) := by decide +kernel
theorem dX4_tableClause_99 : decode cX4_tableClause 99 = .ok (.getfield 22, 3) := by decide +kernel
theorem dX4_tableClause_102 : decode cX4_tableClause 102 = .ok (.iload_n 1, 1) := by decide +kernel
theorem dX4_tableClause_103 : decode cX4_tableClause 103 = .ok (.iload 4, 2) := by decide +kernel
theorem dX4_tableClause_105 : decode cX4_tableClause 105 = .ok (.iload 5, 2) := by decide +kernel
theorem dX4_tableClause_107 : decode cX4_tableClause 107 = .ok (.aload_n 0, 1) := by decide +kernel
theorem dX4_tableClause_108 : decode cX4_tableClause 108 = .ok (.getfield 106, 3) := by decide +kernel
theorem dX4_tableClause_111 : decode cX4_tableClause 111 = .ok (.invokevirtual 131, 3) := by decide +kernel
theorem dX4_tableClause_114 : decode cX4_tableClause 114 = .ok (.aload_n 0, 1) := by decide +kernel
theorem dX4_tableClause_115 : decode cX4_tableClause 115 = .ok (.getfield 46, 3) := by decide +kernel
theorem dX4_tableClause_118 : decode cX4_tableClause 118 = .ok (.bipush 44, 2) := by decide +kernel
theorem dX4_tableClause_120 : decode cX4_tableClause 120 = .ok (.if_icmp .eq 10, 3) := by decide +kernel
theorem dX4_tableClause_123 : decode cX4_tableClause 123 = .ok (.aload_n 0, 1) := by decide +kernel
theorem dX4_tableClause_124 : decode cX4_tableClause 124 = .ok (.bipush 59, 2) := by decide +kernel
theorem dX4_tableClause_126 : decode cX4_tableClause 126 = .ok (.invokevirtual 109, 3) := by decide +kernel
theorem dX4_tableClause_129 : decode cX4_tableClause 129 = .ok (.ireturn, 1) := by decide +kernel
theorem dX4_tableClause_130 : decode cX4_tableClause 130 = .ok (.aload_n 0, 1) := by decide +kernel
theorem dX4_tableClause_131 : decode cX4_tableClause 131 = .ok (.invokevirtual 43, 3) := by decide +kernel
theorem dX4_tableClause_134 : decode cX4_tableClause 134 = .ok (.iload 4, 2) := by decide +kernel
theorem dX4_tableClause_136 : decode cX4_tableClause 136 = .ok (.iconst 1, 1) := by decide +kernel
theorem dX4_tableClause_137 : decode cX4_tableClause 137 = .ok (.iadd, 1) := by decide +kernel
theorem dX4_tableClause_138 : decode cX4_tableClause 138 = .ok (.istore_n 2, 1) := by decide +kernel
theorem dX4_tableClause_139 : decode cX4_tableClause 139 = .ok (.iinc 3 1, 3) := by decide +kernel
theorem dX4_tableClause_142 : decode cX4_tableClause 142 = .ok (.goto (-124), 3) := by decide +kernel
theorem dX4_tableClause_145 : decode cX4_tableClause 145 = .ok (.aload_n 0, 1) := by decide +kernel
theorem dX4_tableClause_146 : decode cX4_tableClause 146 = .ok (.iload_n 2, 1) := by decide +kernel
theorem dX4_tableClause_147 : decode cX4_tableClause 147 = .ok (.sipush 999, 3) := by decide +kernel
theorem dX4_tableClause_150 : decode cX4_tableClause 150 = .ok (.invokevirtual 112, 3) := by decide +kernel
theorem dX4_tableClause_153 : decode cX4_tableClause 153 = .ok (.ifCond .eq 15, 3) := by decide +kernel
theorem dX4_tableClause_156 : decode cX4_tableClause 156 = .ok (.aload_n 0, 1) := by decide +kernel
theorem dX4_tableClause_157 : decode cX4_tableClause 157 = .ok (.iconst 5, 1) := by decide +kernel
theorem dX4_tableClause_158 : decode cX4_tableClause 158 = .ok (.invokevirtual 56, 3) := by decide +kernel
theorem dX4_tableClause_161 : decode cX4_tableClause 161 = .ok (.ifCond .eq 7, 3) := by decide +kernel
theorem dX4_tableClause_164 : decode cX4_tableClause 164 = .ok (.iconst 1, 1) := by decide +kernel
theorem dX4_tableClause_165 : decode cX4_tableClause 165 = .ok (.goto 4, 3) := by decide +kernel
theorem dX4_tableClause_168 : decode cX4_tableClause 168 = .ok (.iconst 0, 1) := by decide +kernel
theorem dX4_tableClause_169 : decode cX4_tableClause 169 = .ok (.ireturn, 1) := by decide +kernel
theorem dX4_blame_0 : decode cX4_blame 0 = .ok (.aload_n 0, 1) := by decide +kernel
theorem dX4_blame_1 : decode cX4_blame 1 = .ok (.iload_n 1, 1) := by decide +kernel
theorem dX4_blame_2 : decode cX4_blame 2 = .ok (.putfield 34, 3) := by decide +kernel
theorem dX4_blame_5 : decode cX4_blame 5 = .ok (.aload_n 0, 1) := by decide +kernel
theorem dX4_blame_6 : decode cX4_blame 6 = .ok (.aload_n 0, 1) := by decide +kernel
theorem dX4_blame_7 : decode cX4_blame 7 = .ok (.getfield 135, 3) := by decide +kernel
theorem dX4_blame_10 : decode cX4_blame 10 = .ok (.putfield 37, 3) := by decide +kernel
theorem dX4_blame_13 : decode cX4_blame 13 = .ok (.iconst 0, 1) := by decide +kernel
theorem dX4_blame_14 : decode cX4_blame 14 = .ok (.ireturn, 1) := by decide +kernel
theorem dX4_once_0 : decode cX4_once 0 = .ok (.aload_n 0, 1) := by decide +kernel
theorem dX4_once_1 : decode cX4_once 1 = .ok (.getfield 11, 3) := by decide +kernel
theorem dX4_once_4 : decode cX4_once 4 = .ok (.iload_n 1, 1) := by decide +kernel
theorem dX4_once_5 : decode cX4_once 5 = .ok (.baload, 1) := by decide +kernel
theorem dX4_once_6 : decode cX4_once 6 = .ok (.ifCond .eq 9, 3) := by decide +kernel
theorem dX4_once_9 : decode cX4_once 9 = .ok (.aload_n 0, 1) := by decide +kernel
theorem dX4_once_10 : decode cX4_once 10 = .ok (.iconst 4, 1) := by decide +kernel
theorem dX4_once_11 : decode cX4_once 11 = .ok (.invokevirtual 56, 3) := by decide +kernel
theorem dX4_once_14 : decode cX4_once 14 = .ok (.ireturn, 1) := by decide +kernel
theorem dX4_once_15 : decode cX4_once 15 = .ok (.aload_n 0, 1) := by decide +kernel
theorem dX4_once_16 : decode cX4_once 16 = .ok (.getfield 11, 3) := by decide +kernel
theorem dX4_once_19 : decode cX4_once 19 = .ok (.iload_n 1, 1) := by decide +kernel
theorem dX4_once_20 : decode cX4_once 20 = .ok (.iconst 1, 1) := by decide +kernel
theorem dX4_once_21 : decode cX4_once 21 = .ok (.bastore, 1) := by decide +kernel
theorem dX4_once_22 : decode cX4_once 22 = .ok (.iconst 1, 1) := by decide +kernel
theorem dX4_once_23 : decode cX4_once 23 = .ok (.ireturn, 1) := by decide +kernel
theorem dX4_atKind_0 : decode cX4_atKind 0 = .ok (.aload_n 0, 1) := by decide +kernel
theorem dX4_atKind_1 : decode cX4_atKind 1 = .ok (.getfield 46, 3) := by decide +kernel
theorem dX4_atKind_4 : decode cX4_atKind 4 = .ok (.iconst 1, 1) := by decide +kernel
theorem dX4_atKind_5 : decode cX4_atKind 5 = .ok (.if_icmp .ne 31, 3) := by decide +kernel
theorem dX4_atKind_8 : decode cX4_atKind 8 = .ok (.aload_n 0, 1) := by decide +kernel
theorem dX4_atKind_9 : decode cX4_atKind 9 = .ok (.getfield 40, 3) := by decide +kernel
theorem dX4_atKind_12 : decode cX4_atKind 12 = .ok (.aload_n 0, 1) := by decide +kernel
theorem dX4_atKind_13 : decode cX4_atKind 13 = .ok (.getfield 135, 3) := by decide +kernel
theorem dX4_atKind_16 : decode cX4_atKind 16 = .ok (.isub, 1) := by decide +kernel
theorem dX4_atKind_17 : decode cX4_atKind 17 = .ok (.iconst 1, 1) := by decide +kernel
theorem dX4_atKind_18 : decode cX4_atKind 18 = .ok (.if_icmp .ne 18, 3) := by decide +kernel
theorem dX4_atKind_21 : decode cX4_atKind 21 = .ok (.aload_n 0, 1) := by decide +kernel
theorem dX4_atKind_22 : decode cX4_atKind 22 = .ok (.getfield 15, 3) := by decide +kernel
theorem dX4_atKind_25 : decode cX4_atKind 25 = .ok (.getfield 138, 3) := by decide +kernel
theorem dX4_atKind_28 : decode cX4_atKind 28 = .ok (.aload_n 0, 1) := by decide +kernel
theorem dX4_atKind_29 : decode cX4_atKind 29 = .ok (.getfield 135, 3) := by decide +kernel
theorem dX4_atKind_32 : decode cX4_atKind 32 = .ok (.iaload, 1) := by decide +kernel
theorem dX4_atKind_33 : decode cX4_atKind 33 = .ok (.goto 4, 3) := by decide +kernel
theorem dX4_atKind_36 : decode cX4_atKind 36 = .ok (.iconst 0, 1) := by decide +kernel
theorem dX4_atKind_37 : decode cX4_atKind 37 = .ok (.istore_n 1, 1) := by decide +kernel
theorem dX4_atKind_38 : decode cX4_atKind 38 = .ok (.iload_n 1, 1) := by decide +kernel
theorem dX4_atKind_39 : decode cX4_atKind 39 = .ok (.bipush 65, 2) := by decide +kernel
theorem dX4_atKind_41 : decode cX4_atKind 41 = .ok (.if_icmp .lt 9, 3) := by decide +kernel
theorem dX4_atKind_44 : decode cX4_atKind 44 = .ok (.iload_n 1, 1) := by decide +kernel
theorem dX4_atKind_45 : decode cX4_atKind 45 = .ok (.bipush 71, 2) := by decide +kernel
theorem dX4_atKind_47 : decode cX4_atKind 47 = .ok (.if_icmp .lt 9, 3) := by decide +kernel
theorem dX4_atKind_50 : decode cX4_atKind 50 = .ok (.aload_n 0, 1) := by decide +kernel
theorem dX4_atKind_51 : decode cX4_atKind 51 = .ok (.iconst 1, 1) := by decide +kernel
theorem dX4_atKind_52 : decode cX4_atKind 52 = .ok (.invokevirtual 56, 3) := by decide +kernel
theorem dX4_atKind_55 : decode cX4_atKind 55 = .ok (.ireturn, 1) := by decide +kernel
theorem dX4_atKind_56 : decode cX4_atKind 56 = .ok (.aload_n 0, 1) := by decide +kernel
theorem dX4_atKind_57 : decode cX4_atKind 57 = .ok (.iload_n 1, 1) := by decide +kernel
theorem dX4_atKind_58 : decode cX4_atKind 58 = .ok (.bipush 65, 2) := by decide +kernel
theorem dX4_atKind_60 : decode cX4_atKind 60 = .ok (.isub, 1) := by decide +kernel
theorem dX4_atKind_61 : decode cX4_atKind 61 = .ok (.putfield 82, 3) := by decide +kernel
theorem dX4_atKind_64 : decode cX4_atKind 64 = .ok (.iconst 1, 1) := by decide +kernel
theorem dX4_atKind_65 : decode cX4_atKind 65 = .ok (.ireturn, 1) := by decide +kernel
theorem dX4_takeKind_0 : decode cX4_takeKind 0 = .ok (.aload_n 0, 1) := by decide +kernel
theorem dX4_takeKind_1 : decode cX4_takeKind 1 = .ok (.invokevirtual 95, 3) := by decide +kernel
theorem dX4_takeKind_4 : decode cX4_takeKind 4 = .ok (.ifCond .ne 5, 3) := by decide +kernel
theorem dX4_takeKind_7 : decode cX4_takeKind 7 = .ok (.iconst 0, 1) := by decide +kernel
theorem dX4_takeKind_8 : decode cX4_takeKind 8 = .ok (.ireturn, 1) := by decide +kernel
theorem dX4_takeKind_9 : decode cX4_takeKind 9 = .ok (.aload_n 0, 1) := by decide +kernel
theorem dX4_takeKind_10 : decode cX4_takeKind 10 = .ok (.getfield 82, 3) := by decide +kernel
theorem dX4_takeKind_13 : decode cX4_takeKind 13 = .ok (.iload_n 1, 1) := by decide +kernel
theorem dX4_takeKind_14 : decode cX4_takeKind 14 = .ok (.if_icmp .ne 9, 3) := by decide +kernel
theorem dX4_takeKind_17 : decode cX4_takeKind 17 = .ok (.aload_n 0, 1) := by decide +kernel
theorem dX4_takeKind_18 : decode cX4_takeKind 18 = .ok (.iconst 3, 1) := by decide +kernel
theorem dX4_takeKind_19 : decode cX4_takeKind 19 = .ok (.invokevirtual 56, 3) := by decide +kernel
theorem dX4_takeKind_22 : decode cX4_takeKind 22 = .ok (.ireturn, 1) := by decide +kernel
theorem dX4_takeKind_23 : decode cX4_takeKind 23 = .ok (.aload_n 0, 1) := by decide +kernel
theorem dX4_takeKind_24 : decode cX4_takeKind 24 = .ok (.aload_n 0, 1) := by decide +kernel
theorem dX4_takeKind_25 : decode cX4_takeKind 25 = .ok (.getfield 82, 3) := by decide +kernel
theorem dX4_takeKind_28 : decode cX4_takeKind 28 = .ok (.putfield 106, 3) := by decide +kernel
theorem dX4_takeKind_31 : decode cX4_takeKind 31 = .ok (.aload_n 0, 1) := by decide +kernel
theorem dX4_takeKind_32 : decode cX4_takeKind 32 = .ok (.invokevirtual 43, 3) := by decide +kernel
theorem dX4_takeKind_35 : decode cX4_takeKind 35 = .ok (.iconst 1, 1) := by decide +kernel
theorem dX4_takeKind_36 : decode cX4_takeKind 36 = .ok (.ireturn, 1) := by decide +kernel
theorem dX4_atNumber_0 : decode cX4_atNumber 0 = .ok (.aload_n 0, 1) := by decide +kernel
theorem dX4_atNumber_1 : decode cX4_atNumber 1 = .ok (.getfield 46, 3) := by decide +kernel
theorem dX4_atNumber_4 : decode cX4_atNumber 4 = .ok (.iconst 2, 1) := by decide +kernel
theorem dX4_atNumber_5 : decode cX4_atNumber 5 = .ok (.if_icmp .eq 9, 3) := by decide +kernel
theorem dX4_atNumber_8 : decode cX4_atNumber 8 = .ok (.aload_n 0, 1) := by decide +kernel
theorem dX4_atNumber_9 : decode cX4_atNumber 9 = .ok (.iconst 1, 1) := by decide +kernel
theorem dX4_atNumber_10 : decode cX4_atNumber 10 = .ok (.invokevirtual 56, 3) := by decide +kernel
theorem dX4_atNumber_13 : decode cX4_atNumber 13 = .ok (.ireturn, 1) := by decide +kernel
theorem dX4_atNumber_14 : decode cX4_atNumber 14 = .ok (.aload_n 0, 1) := by decide +kernel
theorem dX4_atNumber_15 : decode cX4_atNumber 15 = .ok (.getfield 82, 3) := by decide +kernel
theorem dX4_atNumber_18 : decode cX4_atNumber 18 = .ok (.iload_n 1, 1) := by decide +kernel
theorem dX4_atNumber_19 : decode cX4_atNumber 19 = .ok (.if_icmp .lt 11, 3) := by decide +kernel
theorem dX4_atNumber_22 : decode cX4_atNumber 22 = .ok (.aload_n 0, 1) := by decide +kernel
theorem dX4_atNumber_23 : decode cX4_atNumber 23 = .ok (.getfield 82, 3) := by decide +kernel
theorem dX4_atNumber_26 : decode cX4_atNumber 26 = .ok (.iload_n 2, 1) := by decide +kernel
theorem dX4_atNumber_27 : decode cX4_atNumber 27 = .ok (.if_icmp .le 11, 3) := by decide +kernel
theorem dX4_atNumber_30 : decode cX4_atNumber 30 = .ok (.aload_n 0, 1) := by decide +kernel
theorem dX4_atNumber_31 : decode cX4_atNumber 31 = .ok (.iconst 2, 1) := by decide +kernel
theorem dX4_atNumber_32 : decode cX4_atNumber 32 = .ok (.invokevirtual 56, 3) := by decide +kernel
theorem dX4_atNumber_35 : decode cX4_atNumber 35 = .ok (.ifCond .eq 7, 3) := by decide +kernel
theorem dX4_atNumber_38 : decode cX4_atNumber 38 = .ok (.iconst 1, 1) := by decide +kernel
theorem dX4_atNumber_39 : decode cX4_atNumber 39 = .ok (.goto 4, 3) := by decide +kernel
theorem dX4_atNumber_42 : decode cX4_atNumber 42 = .ok (.iconst 0, 1) := by decide +kernel
theorem dX4_atNumber_43 : decode cX4_atNumber 43 = .ok (.ireturn, 1) := by decide +kernel
theorem dX4_takeNumber_0 : decode cX4_takeNumber 0 = .ok (.aload_n 0, 1) := by decide +kernel
theorem dX4_takeNumber_1 : decode cX4_takeNumber 1 = .ok (.iload_n 1, 1) := by decide +kernel
theorem dX4_takeNumber_2 : decode cX4_takeNumber 2 = .ok (.iload_n 2, 1) := by decide +kernel
theorem dX4_takeNumber_3 : decode cX4_takeNumber 3 = .ok (.invokevirtual 112, 3) := by decide +kernel
theorem dX4_takeNumber_6 : decode cX4_takeNumber 6 = .ok (.ifCond .ne 5, 3) := by decide +kernel
theorem dX4_takeNumber_9 : decode cX4_takeNumber 9 = .ok (.iconst 0, 1) := by decide +kernel
theorem dX4_takeNumber_10 : decode cX4_takeNumber 10 = .ok (.ireturn, 1) := by decide +kernel
theorem dX4_takeNumber_11 : decode cX4_takeNumber 11 = .ok (.aload_n 0, 1) := by decide +kernel
theorem dX4_takeNumber_12 : decode cX4_takeNumber 12 = .ok (.aload_n 0, 1) := by decide +kernel
theorem dX4_takeNumber_13 : decode cX4_takeNumber 13 = .ok (.getfield 82, 3) := by decide +kernel
theorem dX4_takeNumber_16 : decode cX4_takeNumber 16 = .ok (.putfield 106, 3) := by decide +kernel
theorem dX4_takeNumber_19 : decode cX4_takeNumber 19 = .ok (.aload_n 0, 1) := by decide +kernel
theorem dX4_takeNumber_20 : decode cX4_takeNumber 20 = .ok (.invokevirtual 43, 3) := by decide +kernel
theorem dX4_takeNumber_23 : decode cX4_takeNumber 23 = .ok (.iconst 1, 1) := by decide +kernel
theorem dX4_takeNumber_24 : decode cX4_takeNumber 24 = .ok (.ireturn, 1) := by decide +kernel
theorem dX4_takeWord_0 : decode cX4_takeWord 0 = .ok (.aload_n 0, 1) := by decide +kernel
theorem dX4_takeWord_1 : decode cX4_takeWord 1 = .ok (.aload_n 1, 1) := by decide +kernel
theorem dX4_takeWord_2 : decode cX4_takeWord 2 = .ok (.invokevirtual 62, 3) := by decide +kernel
theorem dX4_takeWord_5 : decode cX4_takeWord 5 = .ok (.ifCond .ne 9, 3) := by decide +kernel
theorem dX4_takeWord_8 : decode cX4_takeWord 8 = .ok (.aload_n 0, 1) := by decide +kernel
theorem dX4_takeWord_9 : decode cX4_takeWord 9 = .ok (.iconst 1, 1) := by decide +kernel
theorem dX4_takeWord_10 : decode cX4_takeWord 10 = .ok (.invokevirtual 56, 3) := by decide +kernel
theorem dX4_takeWord_13 : decode cX4_takeWord 13 = .ok (.ireturn, 1) := by decide +kernel
theorem dX4_takeWord_14 : decode cX4_takeWord 14 = .ok (.aload_n 0, 1) := by decide +kernel
theorem dX4_takeWord_15 : decode cX4_takeWord 15 = .ok (.invokevirtual 43, 3) := by decide +kernel
theorem dX4_takeWord_18 : decode cX4_takeWord 18 = .ok (.iconst 1, 1) := by decide +kernel
theorem dX4_takeWord_19 : decode cX4_takeWord 19 = .ok (.ireturn, 1) := by decide +kernel
theorem dX4_takeSign_0 : decode cX4_takeSign 0 = .ok (.aload_n 0, 1) := by decide +kernel
theorem dX4_takeSign_1 : decode cX4_takeSign 1 = .ok (.getfield 46, 3) := by decide +kernel
theorem dX4_takeSign_4 : decode cX4_takeSign 4 = .ok (.iload_n 1, 1) := by decide +kernel
theorem dX4_takeSign_5 : decode cX4_takeSign 5 = .ok (.if_icmp .eq 9, 3) := by decide +kernel
theorem dX4_takeSign_8 : decode cX4_takeSign 8 = .ok (.aload_n 0, 1) := by decide +kernel
theorem dX4_takeSign_9 : decode cX4_takeSign 9 = .ok (.iconst 1, 1) := by decide +kernel
theorem dX4_takeSign_10 : decode cX4_takeSign 10 = .ok (.invokevirtual 56, 3) := by decide +kernel
theorem dX4_takeSign_13 : decode cX4_takeSign 13 = .ok (.ireturn, 1) := by decide +kernel
theorem dX4_takeSign_14 : decode cX4_takeSign 14 = .ok (.aload_n 0, 1) := by decide +kernel
theorem dX4_takeSign_15 : decode cX4_takeSign 15 = .ok (.invokevirtual 43, 3) := by decide +kernel
theorem dX4_takeSign_18 : decode cX4_takeSign 18 = .ok (.iconst 1, 1) := by decide +kernel
theorem dX4_takeSign_19 : decode cX4_takeSign 19 = .ok (.ireturn, 1) := by decide +kernel
theorem dX4_isWord_0 : decode cX4_isWord 0 = .ok (.aload_n 0, 1) := by decide +kernel
theorem dX4_isWord_1 : decode cX4_isWord 1 = .ok (.getfield 46, 3) := by decide +kernel
theorem dX4_isWord_4 : decode cX4_isWord 4 = .ok (.iconst 1, 1) := by decide +kernel
theorem dX4_isWord_5 : decode cX4_isWord 5 = .ok (.if_icmp .ne 19, 3) := by decide +kernel
theorem dX4_isWord_8 : decode cX4_isWord 8 = .ok (.aload_n 0, 1) := by decide +kernel
theorem dX4_isWord_9 : decode cX4_isWord 9 = .ok (.getfield 40, 3) := by decide +kernel
theorem dX4_isWord_12 : decode cX4_isWord 12 = .ok (.aload_n 0, 1) := by decide +kernel
theorem dX4_isWord_13 : decode cX4_isWord 13 = .ok (.getfield 135, 3) := by decide +kernel
theorem dX4_isWord_16 : decode cX4_isWord 16 = .ok (.isub, 1) := by decide +kernel
theorem dX4_isWord_17 : decode cX4_isWord 17 = .ok (.aload_n 1, 1) := by decide +kernel
theorem dX4_isWord_18 : decode cX4_isWord 18 = .ok (.invokevirtual 143, 3) := by decide +kernel
theorem dX4_isWord_21 : decode cX4_isWord 21 = .ok (.if_icmp .eq 5, 3) := by decide +kernel
theorem dX4_isWord_24 : decode cX4_isWord 24 = .ok (.iconst 0, 1) := by decide +kernel
theorem dX4_isWord_25 : decode cX4_isWord 25 = .ok (.ireturn, 1) := by decide +kernel
theorem dX4_isWord_26 : decode cX4_isWord 26 = .ok (.iconst 0, 1) := by decide +kernel
theorem dX4_isWord_27 : decode cX4_isWord 27 = .ok (.istore_n 2, 1) := by decide +kernel
theorem dX4_isWord_28 : decode cX4_isWord 28 = .ok (.iload_n 2, 1) := by decide +kernel
theorem dX4_isWord_29 : decode cX4_isWord 29 = .ok (.aload_n 1, 1) := by decide +kernel
theorem dX4_isWord_30 : decode cX4_isWord 30 = .ok (.invokevirtual 143, 3) := by decide +kernel
theorem dX4_isWord_33 : decode cX4_isWord 33 = .ok (.if_icmp .ge 33, 3) := by decide +kernel
theorem dX4_isWord_36 : decode cX4_isWord 36 = .ok (.aload_n 0, 1) := by decide +kernel
theorem dX4_isWord_37 : decode cX4_isWord 37 = .ok (.getfield 15, 3) := by decide +kernel
theorem dX4_isWord_40 : decode cX4_isWord 40 = .ok (.getfield 138, 3) := by decide +kernel
theorem dX4_isWord_43 : decode cX4_isWord 43 = .ok (.aload_n 0, 1) := by decide +kernel
theorem dX4_isWord_44 : decode cX4_isWord 44 = .ok (.getfield 135, 3) := by decide +kernel
theorem dX4_isWord_47 : decode cX4_isWord 47 = .ok (.iload_n 2, 1) := by decide +kernel
theorem dX4_isWord_48 : decode cX4_isWord 48 = .ok (.iadd, 1) := by decide +kernel
theorem dX4_isWord_49 : decode cX4_isWord 49 = .ok (.iaload, 1) := by decide +kernel
theorem dX4_isWord_50 : decode cX4_isWord 50 = .ok (.aload_n 1, 1) := by decide +kernel
theorem dX4_isWord_51 : decode cX4_isWord 51 = .ok (.iload_n 2, 1) := by decide +kernel
theorem dX4_isWord_52 : decode cX4_isWord 52 = .ok (.invokevirtual 149, 3) := by decide +kernel
theorem dX4_isWord_55 : decode cX4_isWord 55 = .ok (.if_icmp .eq 5, 3) := by decide +kernel
theorem dX4_isWord_58 : decode cX4_isWord 58 = .ok (.iconst 0, 1) := by decide +kernel
theorem dX4_isWord_59 : decode cX4_isWord 59 = .ok (.ireturn, 1) := by decide +kernel
theorem dX4_isWord_60 : decode cX4_isWord 60 = .ok (.iinc 2 1, 3) := by decide +kernel
theorem dX4_isWord_63 : decode cX4_isWord 63 = .ok (.goto (-35), 3) := by decide +kernel
theorem dX4_isWord_66 : decode cX4_isWord 66 = .ok (.iconst 1, 1) := by decide +kernel
theorem dX4_isWord_67 : decode cX4_isWord 67 = .ok (.ireturn, 1) := by decide +kernel
theorem dX4_next_0 : decode cX4_next 0 = .ok (.aload_n 0, 1) := by decide +kernel
theorem dX4_next_1 : decode cX4_next 1 = .ok (.aload_n 0, 1) := by decide +kernel
theorem dX4_next_2 : decode cX4_next 2 = .ok (.getfield 40, 3) := by decide +kernel
theorem dX4_next_5 : decode cX4_next 5 = .ok (.putfield 135, 3) := by decide +kernel
theorem dX4_next_8 : decode cX4_next 8 = .ok (.aload_n 0, 1) := by decide +kernel
theorem dX4_next_9 : decode cX4_next 9 = .ok (.getfield 135, 3) := by decide +kernel
theorem dX4_next_12 : decode cX4_next 12 = .ok (.aload_n 0, 1) := by decide +kernel
theorem dX4_next_13 : decode cX4_next 13 = .ok (.getfield 15, 3) := by decide +kernel
theorem dX4_next_16 : decode cX4_next 16 = .ok (.getfield 153, 3) := by decide +kernel
theorem dX4_next_19 : decode cX4_next 19 = .ok (.if_icmp .ge 34, 3) := by decide +kernel
theorem dX4_next_22 : decode cX4_next 22 = .ok (.aload_n 0, 1) := by decide +kernel
theorem dX4_next_23 : decode cX4_next 23 = .ok (.getfield 15, 3) := by decide +kernel
theorem dX4_next_26 : decode cX4_next 26 = .ok (.getfield 138, 3) := by decide +kernel
theorem dX4_next_29 : decode cX4_next 29 = .ok (.aload_n 0, 1) := by decide +kernel
theorem dX4_next_30 : decode cX4_next 30 = .ok (.getfield 135, 3) := by decide +kernel
theorem dX4_next_33 : decode cX4_next 33 = .ok (.iaload, 1) := by decide +kernel
theorem dX4_next_34 : decode cX4_next 34 = .ok (.invokestatic 155, 3) := by decide +kernel
theorem dX4_next_37 : decode cX4_next 37 = .ok (.ifCond .eq 16, 3) := by decide +kernel
theorem dX4_next_40 : decode cX4_next 40 = .ok (.aload_n 0, 1) := by decide +kernel
theorem dX4_next_41 : decode cX4_next 41 = .ok (.dup, 1) := by decide +kernel
theorem dX4_next_42 : decode cX4_next 42 = .ok (.getfield 135, 3) := by decide +kernel
theorem dX4_next_45 : decode cX4_next 45 = .ok (.iconst 1, 1) := by decide +kernel
theorem dX4_next_46 : decode cX4_next 46 = .ok (.iadd, 1) := by decide +kernel
theorem dX4_next_47 : decode cX4_next 47 = .ok (.putfield 135, 3) := by decide +kernel
theorem dX4_next_50 : decode cX4_next 50 = .ok (.goto (-42), 3) := by decide +kernel
theorem dX4_next_53 : decode cX4_next 53 = .ok (.aload_n 0, 1) := by decide +kernel
theorem dX4_next_54 : decode cX4_next 54 = .ok (.aload_n 0, 1) := by decide +kernel
theorem dX4_next_55 : decode cX4_next 55 = .ok (.getfield 135, 3) := by decide +kernel
theorem dX4_next_58 : decode cX4_next 58 = .ok (.putfield 40, 3) := by decide +kernel
theorem dX4_next_61 : decode cX4_next 61 = .ok (.aload_n 0, 1) := by decide +kernel
theorem dX4_next_62 : decode cX4_next 62 = .ok (.iconst 0, 1) := by decide +kernel
theorem dX4_next_63 : decode cX4_next 63 = .ok (.putfield 82, 3) := by decide +kernel
theorem dX4_next_66 : decode cX4_next 66 = .ok (.aload_n 0, 1) := by decide +kernel
theorem dX4_next_67 : decode cX4_next 67 = .ok (.getfield 135, 3) := by decide +kernel
theorem dX4_next_70 : decode cX4_next 70 = .ok (.aload_n 0, 1) := by decide +kernel
theorem dX4_next_71 : decode cX4_next 71 = .ok (.getfield 15, 3) := by decide +kernel
theorem dX4_next_74 : decode cX4_next 74 = .ok (.getfield 153, 3) := by decide +kernel
theorem dX4_next_77 : decode cX4_next 77 = .ok (.if_icmp .lt 11, 3) := by decide +kernel
theorem dX4_next_80 : decode cX4_next 80 = .ok (.aload_n 0, 1) := by decide +kernel
theorem dX4_next_81 : decode cX4_next 81 = .ok (.iconst 0, 1) := by decide +kernel
theorem dX4_next_82 : decode cX4_next 82 = .ok (.putfield 46, 3) := by decide +kernel
theorem dX4_next_85 : decode cX4_next 85 = .ok (.goto 221, 3) := by decide +kernel
theorem dX4_next_88 : decode cX4_next 88 = .ok (.aload_n 0, 1) := by decide +kernel
theorem dX4_next_89 : decode cX4_next 89 = .ok (.getfield 15, 3) := by decide +kernel
theorem dX4_next_92 : decode cX4_next 92 = .ok (.getfield 138, 3) := by decide +kernel
theorem dX4_next_95 : decode cX4_next 95 = .ok (.aload_n 0, 1) := by decide +kernel
theorem dX4_next_96 : decode cX4_next 96 = .ok (.getfield 135, 3) := by decide +kernel
theorem dX4_next_99 : decode cX4_next 99 = .ok (.iaload, 1) := by decide +kernel
theorem dX4_next_100 : decode cX4_next 100 = .ok (.invokestatic 158, 3) := by decide +kernel
theorem dX4_next_103 : decode cX4_next 103 = .ok (.ifCond .eq 53, 3) := by decide +kernel
theorem dX4_next_106 : decode cX4_next 106 = .ok (.aload_n 0, 1) := by decide +kernel
theorem dX4_next_107 : decode cX4_next 107 = .ok (.iconst 1, 1) := by decide +kernel
theorem dX4_next_108 : decode cX4_next 108 = .ok (.putfield 46, 3) := by decide +kernel
theorem dX4_next_111 : decode cX4_next 111 = .ok (.aload_n 0, 1) := by decide +kernel
theorem dX4_next_112 : decode cX4_next 112 = .ok (.getfield 40, 3) := by decide +kernel
theorem dX4_next_115 : decode cX4_next 115 = .ok (.aload_n 0, 1) := by decide +kernel
theorem dX4_next_116 : decode cX4_next 116 = .ok (.getfield 15, 3) := by decide +kernel
theorem dX4_next_119 : decode cX4_next 119 = .ok (.getfield 153, 3) := by decide +kernel
theorem dX4_next_122 : decode cX4_next 122 = .ok (.if_icmp .ge 184, 3) := by decide +kernel
theorem dX4_next_125 : decode cX4_next 125 = .ok (.aload_n 0, 1) := by decide +kernel
theorem dX4_next_126 : decode cX4_next 126 = .ok (.getfield 15, 3) := by decide +kernel
theorem dX4_next_129 : decode cX4_next 129 = .ok (.getfield 138, 3) := by decide +kernel
theorem dX4_next_132 : decode cX4_next 132 = .ok (.aload_n 0, 1) := by decide +kernel
theorem dX4_next_133 : decode cX4_next 133 = .ok (.getfield 40, 3) := by decide +kernel
theorem dX4_next_136 : decode cX4_next 136 = .ok (.iaload, 1) := by decide +kernel
theorem dX4_next_137 : decode cX4_next 137 = .ok (.invokestatic 158, 3) := by decide +kernel
theorem dX4_next_140 : decode cX4_next 140 = .ok (.ifCond .eq 166, 3) := by decide +kernel
theorem dX4_next_143 : decode cX4_next 143 = .ok (.aload_n 0, 1) := by decide +kernel
theorem dX4_next_144 : decode cX4_next 144 = .ok (.dup, 1) := by decide +kernel
theorem dX4_next_145 : decode cX4_next 145 = .ok (.getfield 40, 3) := by decide +kernel
theorem dX4_next_148 : decode cX4_next 148 = .ok (.iconst 1, 1) := by decide +kernel
theorem dX4_next_149 : decode cX4_next 149 = .ok (.iadd, 1) := by decide +kernel
theorem dX4_next_150 : decode cX4_next 150 = .ok (.putfield 40, 3) := by decide +kernel
theorem dX4_next_153 : decode cX4_next 153 = .ok (.goto (-42), 3) := by decide +kernel
theorem dX4_next_156 : decode cX4_next 156 = .ok (.aload_n 0, 1) := by decide +kernel
theorem dX4_next_157 : decode cX4_next 157 = .ok (.getfield 15, 3) := by decide +kernel
theorem dX4_next_160 : decode cX4_next 160 = .ok (.getfield 138, 3) := by decide +kernel
theorem dX4_next_163 : decode cX4_next 163 = .ok (.aload_n 0, 1) := by decide +kernel
theorem dX4_next_164 : decode cX4_next 164 = .ok (.getfield 135, 3) := by decide +kernel
theorem dX4_next_167 : decode cX4_next 167 = .ok (.iaload, 1) := by decide +kernel
theorem dX4_next_168 : decode cX4_next 168 = .ok (.invokestatic 161, 3) := by decide +kernel
theorem dX4_next_171 : decode cX4_next 171 = .ok (.ifCond .eq 85, 3) := by decide +kernel
theorem dX4_next_174 : decode cX4_next 174 = .ok (.aload_n 0, 1) := by decide +kernel
theorem dX4_next_175 : decode cX4_next 175 = .ok (.iconst 2, 1) := by decide +kernel
theorem dX4_next_176 : decode cX4_next 176 = .ok (.putfield 46, 3) := by decide +kernel
theorem dX4_next_179 : decode cX4_next 179 = .ok (.aload_n 0, 1) := by decide +kernel
theorem dX4_next_180 : decode cX4_next 180 = .ok (.getfield 40, 3) := by decide +kernel
theorem dX4_next_183 : decode cX4_next 183 = .ok (.aload_n 0, 1) := by decide +kernel
theorem dX4_next_184 : decode cX4_next 184 = .ok (.getfield 15, 3) := by decide +kernel
theorem dX4_next_187 : decode cX4_next 187 = .ok (.getfield 153, 3) := by decide +kernel
theorem dX4_next_190 : decode cX4_next 190 = .ok (.if_icmp .ge 116, 3) := by decide +kernel
theorem dX4_next_193 : decode cX4_next 193 = .ok (.aload_n 0, 1) := by decide +kernel
theorem dX4_next_194 : decode cX4_next 194 = .ok (.getfield 15, 3) := by decide +kernel
theorem dX4_next_197 : decode cX4_next 197 = .ok (.getfield 138, 3) := by decide +kernel
theorem dX4_next_200 : decode cX4_next 200 = .ok (.aload_n 0, 1) := by decide +kernel
theorem dX4_next_201 : decode cX4_next 201 = .ok (.getfield 40, 3) := by decide +kernel
theorem dX4_next_204 : decode cX4_next 204 = .ok (.iaload, 1) := by decide +kernel
theorem dX4_next_205 : decode cX4_next 205 = .ok (.invokestatic 161, 3) := by decide +kernel
theorem dX4_next_208 : decode cX4_next 208 = .ok (.ifCond .eq 98, 3) := by decide +kernel
theorem dX4_next_211 : decode cX4_next 211 = .ok (.aload_n 0, 1) := by decide +kernel
theorem dX4_next_212 : decode cX4_next 212 = .ok (.aload_n 0, 1) := by decide +kernel
theorem dX4_next_213 : decode cX4_next 213 = .ok (.getfield 82, 3) := by decide +kernel
theorem dX4_next_216 : decode cX4_next 216 = .ok (.bipush 10, 2) := by decide +kernel
theorem dX4_next_218 : decode cX4_next 218 = .ok (.imul, 1) := by decide +kernel
theorem dX4_next_219 : decode cX4_next 219 = .ok (.aload_n 0, 1) := by decide +kernel
theorem dX4_next_220 : decode cX4_next 220 = .ok (.getfield 15, 3) := by decide +kernel
theorem dX4_next_223 : decode cX4_next 223 = .ok (.getfield 138, 3) := by decide +kernel
theorem dX4_next_226 : decode cX4_next 226 = .ok (.aload_n 0, 1) := by decide +kernel
theorem dX4_next_227 : decode cX4_next 227 = .ok (.getfield 40, 3) := by decide +kernel
theorem dX4_next_230 : decode cX4_next 230 = .ok (.iaload, 1) := by decide +kernel
theorem dX4_next_231 : decode cX4_next 231 = .ok (.iadd, 1) := by decide +kernel
theorem dX4_next_232 : decode cX4_next 232 = .ok (.bipush 48, 2) := by decide +kernel
theorem dX4_next_234 : decode cX4_next 234 = .ok (.isub, 1) := by decide +kernel
theorem dX4_next_235 : decode cX4_next 235 = .ok (.ldc 164, 2) := by decide +kernel
theorem dX4_next_237 : decode cX4_next 237 = .ok (.invokestatic 165, 3) := by decide +kernel
theorem dX4_next_240 : decode cX4_next 240 = .ok (.putfield 82, 3) := by decide +kernel
theorem dX4_next_243 : decode cX4_next 243 = .ok (.aload_n 0, 1) := by decide +kernel
theorem dX4_next_244 : decode cX4_next 244 = .ok (.dup, 1) := by decide +kernel
theorem dX4_next_245 : decode cX4_next 245 = .ok (.getfield 40, 3) := by decide +kernel
theorem dX4_next_248 : decode cX4_next 248 = .ok (.iconst 1, 1) := by decide +kernel
theorem dX4_next_249 : decode cX4_next 249 = .ok (.iadd, 1) := by decide +kernel
theorem dX4_next_250 : decode cX4_next 250 = .ok (.putfield 40, 3) := by decide +kernel
theorem dX4_next_253 : decode cX4_next 253 = .ok (.goto (-74), 3) := by decide +kernel
theorem dX4_next_256 : decode cX4_next 256 = .ok (.aload_n 0, 1) := by decide +kernel
theorem dX4_next_257 : decode cX4_next 257 = .ok (.getfield 15, 3) := by decide +kernel
theorem dX4_next_260 : decode cX4_next 260 = .ok (.getfield 138, 3) := by decide +kernel
theorem dX4_next_263 : decode cX4_next 263 = .ok (.aload_n 0, 1) := by decide +kernel
theorem dX4_next_264 : decode cX4_next 264 = .ok (.getfield 135, 3) := by decide +kernel
theorem dX4_next_267 : decode cX4_next 267 = .ok (.iaload, 1) := by decide +kernel
theorem dX4_next_268 : decode cX4_next 268 = .ok (.istore_n 1, 1) := by decide +kernel
theorem dX4_next_269 : decode cX4_next 269 = .ok (.aload_n 0, 1) := by decide +kernel
theorem dX4_next_270 : decode cX4_next 270 = .ok (.iload_n 1, 1) := by decide +kernel
theorem dX4_next_271 : decode cX4_next 271 = .ok (.bipush 61, 2) := by decide +kernel
theorem dX4_next_273 : decode cX4_next 273 = .ok (.if_icmp .eq 15, 3) := by decide +kernel
theorem dX4_next_276 : decode cX4_next 276 = .ok (.iload_n 1, 1) := by decide +kernel
theorem dX4_next_277 : decode cX4_next 277 = .ok (.bipush 44, 2) := by decide +kernel
theorem dX4_next_279 : decode cX4_next 279 = .ok (.if_icmp .eq 9, 3) := by decide +kernel
theorem dX4_next_282 : decode cX4_next 282 = .ok (.iload_n 1, 1) := by decide +kernel
theorem dX4_next_283 : decode cX4_next 283 = .ok (.bipush 59, 2) := by decide +kernel
theorem dX4_next_285 : decode cX4_next 285 = .ok (.if_icmp .ne 7, 3) := by decide +kernel
theorem dX4_next_288 : decode cX4_next 288 = .ok (.iload_n 1, 1) := by decide +kernel
theorem dX4_next_289 : decode cX4_next 289 = .ok (.goto 4, 3) := by decide +kernel
theorem dX4_next_292 : decode cX4_next 292 = .ok (.iconst 3, 1) := by decide +kernel
theorem dX4_next_293 : decode cX4_next 293 = .ok (.putfield 46, 3) := by decide +kernel
theorem dX4_next_296 : decode cX4_next 296 = .ok (.aload_n 0, 1) := by decide +kernel
theorem dX4_next_297 : decode cX4_next 297 = .ok (.dup, 1) := by decide +kernel
theorem dX4_next_298 : decode cX4_next 298 = .ok (.getfield 40, 3) := by decide +kernel
theorem dX4_next_301 : decode cX4_next 301 = .ok (.iconst 1, 1) := by decide +kernel
theorem dX4_next_302 : decode cX4_next 302 = .ok (.iadd, 1) := by decide +kernel
theorem dX4_next_303 : decode cX4_next 303 = .ok (.putfield 40, 3) := by decide +kernel
theorem dX4_next_306 : decode cX4_next 306 = .ok (.return_, 1) := by decide +kernel
theorem dX4_isBlank_0 : decode cX4_isBlank 0 = .ok (.iload_n 0, 1) := by decide +kernel
theorem dX4_isBlank_1 : decode cX4_isBlank 1 = .ok (.bipush 32, 2) := by decide +kernel
theorem dX4_isBlank_3 : decode cX4_isBlank 3 = .ok (.if_icmp .eq 9, 3) := by decide +kernel
theorem dX4_isBlank_6 : decode cX4_isBlank 6 = .ok (.iload_n 0, 1) := by decide +kernel
theorem dX4_isBlank_7 : decode cX4_isBlank 7 = .ok (.bipush 10, 2) := by decide +kernel
theorem dX4_isBlank_9 : decode cX4_isBlank 9 = .ok (.if_icmp .ne 7, 3) := by decide +kernel
theorem dX4_isBlank_12 : decode cX4_isBlank 12 = .ok (.iconst 1, 1) := by decide +kernel
theorem dX4_isBlank_13 : decode cX4_isBlank 13 = .ok (.goto 4, 3) := by decide +kernel
theorem dX4_isBlank_16 : decode cX4_isBlank 16 = .ok (.iconst 0, 1) := by decide +kernel
theorem dX4_isBlank_17 : decode cX4_isBlank 17 = .ok (.ireturn, 1) := by decide +kernel
theorem dX4_isLetter_0 : decode cX4_isLetter 0 = .ok (.iload_n 0, 1) := by decide +kernel
theorem dX4_isLetter_1 : decode cX4_isLetter 1 = .ok (.bipush 97, 2) := by decide +kernel
theorem dX4_isLetter_3 : decode cX4_isLetter 3 = .ok (.if_icmp .lt 9, 3) := by decide +kernel
theorem dX4_isLetter_6 : decode cX4_isLetter 6 = .ok (.iload_n 0, 1) := by decide +kernel
theorem dX4_isLetter_7 : decode cX4_isLetter 7 = .ok (.bipush 122, 2) := by decide +kernel
theorem dX4_isLetter_9 : decode cX4_isLetter 9 = .ok (.if_icmp .le 15, 3) := by decide +kernel
theorem dX4_isLetter_12 : decode cX4_isLetter 12 = .ok (.iload_n 0, 1) := by decide +kernel
theorem dX4_isLetter_13 : decode cX4_isLetter 13 = .ok (.bipush 65, 2) := by decide +kernel
theorem dX4_isLetter_15 : decode cX4_isLetter 15 = .ok (.if_icmp .lt 13, 3) := by decide +kernel
theorem dX4_isLetter_18 : decode cX4_isLetter 18 = .ok (.iload_n 0, 1) := by decide +kernel
theorem dX4_isLetter_19 : decode cX4_isLetter 19 = .ok (.bipush 90, 2) := by decide +kernel
theorem dX4_isLetter_21 : decode cX4_isLetter 21 = .ok (.if_icmp .gt 7, 3) := by decide +kernel
theorem dX4_isLetter_24 : decode cX4_isLetter 24 = .ok (.iconst 1, 1) := by decide +kernel
theorem dX4_isLetter_25 : decode cX4_isLetter 25 = .ok (.goto 4, 3) := by decide +kernel
theorem dX4_isLetter_28 : decode cX4_isLetter 28 = .ok (.iconst 0, 1) := by decide +kernel
theorem dX4_isLetter_29 : decode cX4_isLetter 29 = .ok (.ireturn, 1) := by decide +kernel
theorem dX4_isDigit_0 : decode cX4_isDigit 0 = .ok (.iload_n 0, 1) := by decide +kernel
theorem dX4_isDigit_1 : decode cX4_isDigit 1 = .ok (.bipush 48, 2) := by decide +kernel
theorem dX4_isDigit_3 : decode cX4_isDigit 3 = .ok (.if_icmp .lt 13, 3) := by decide +kernel
theorem dX4_isDigit_6 : decode cX4_isDigit 6 = .ok (.iload_n 0, 1) := by decide +kernel
theorem dX4_isDigit_7 : decode cX4_isDigit 7 = .ok (.bipush 57, 2) := by decide +kernel
theorem dX4_isDigit_9 : decode cX4_isDigit 9 = .ok (.if_icmp .gt 7, 3) := by decide +kernel
theorem dX4_isDigit_12 : decode cX4_isDigit 12 = .ok (.iconst 1, 1) := by decide +kernel
theorem dX4_isDigit_13 : decode cX4_isDigit 13 = .ok (.goto 4, 3) := by decide +kernel
theorem dX4_isDigit_16 : decode cX4_isDigit 16 = .ok (.iconst 0, 1) := by decide +kernel
theorem dX4_isDigit_17 : decode cX4_isDigit 17 = .ok (.ireturn, 1) := by decide +kernel
theorem dX5_init_0 : decode cX5_init 0 = .ok (.aload_n 0, 1) := by decide +kernel
theorem dX5_init_1 : decode cX5_init 1 = .ok (.invokespecial 3, 3) := by decide +kernel
theorem dX5_init_4 : decode cX5_init 4 = .ok (.aload_n 0, 1) := by decide +kernel
theorem dX5_init_5 : decode cX5_init 5 = .ok (.bipush 80, 2) := by decide +kernel
theorem dX5_init_7 : decode cX5_init 7 = .ok (.newarray .long, 2) := by decide +kernel
theorem dX5_init_9 : decode cX5_init 9 = .ok (.putfield 9, 3) := by decide +kernel
theorem dX5_init_12 : decode cX5_init 12 = .ok (.aload_n 0, 1) := by decide +kernel
theorem dX5_init_13 : decode cX5_init 13 = .ok (.iconst (-1), 1) := by decide +kernel
theorem dX5_init_14 : decode cX5_init 14 = .ok (.putfield 15, 3) := by decide +kernel
theorem dX5_init_17 : decode cX5_init 17 = .ok (.return_, 1) := by decide +kernel
theorem dX5_take_0 : decode cX5_take 0 = .ok (.aload_n 0, 1) := by decide +kernel
theorem dX5_take_1 : decode cX5_take 1 = .ok (.iload_n 1, 1) := by decide +kernel
theorem dX5_take_2 : decode cX5_take 2 = .ok (.putfield 15, 3) := by decide +kernel
theorem dX5_take_5 : decode cX5_take 5 = .ok (.aload_n 2, 1) := by decide +kernel
theorem dX5_take_6 : decode cX5_take 6 = .ok (.iconst 0, 1) := by decide +kernel
theorem dX5_take_7 : decode cX5_take 7 = .ok (.aload_n 0, 1) := by decide +kernel
theorem dX5_take_8 : decode cX5_take 8 = .ok (.getfield 9, 3) := by decide +kernel
theorem dX5_take_11 : decode cX5_take 11 = .ok (.iconst 0, 1) := by decide +kernel
theorem dX5_take_12 : decode cX5_take 12 = .ok (.bipush 80, 2) := by decide +kernel
theorem dX5_take_14 : decode cX5_take 14 = .ok (.invokestatic 19, 3) := by decide +kernel
theorem dX5_take_17 : decode cX5_take 17 = .ok (.return_, 1) := by decide +kernel
theorem dX5_compare_0 : decode cX5_compare 0 = .ok (.aload_n 0, 1) := by decide +kernel
theorem dX5_compare_1 : decode cX5_compare 1 = .ok (.iconst 0, 1) := by decide +kernel
theorem dX5_compare_2 : decode cX5_compare 2 = .ok (.putfield 25, 3) := by decide +kernel
theorem dX5_compare_5 : decode cX5_compare 5 = .ok (.iconst 0, 1) := by decide +kernel
theorem dX5_compare_6 : decode cX5_compare 6 = .ok (.istore_n 2, 1) := by decide +kernel
theorem dX5_compare_7 : decode cX5_compare 7 = .ok (.iload_n 2, 1) := by decide +kernel
theorem dX5_compare_8 : decode cX5_compare 8 = .ok (.bipush 80, 2) := by decide +kernel
theorem dX5_compare_10 : decode cX5_compare 10 = .ok (.if_icmp .ge 37, 3) := by decide +kernel
theorem dX5_compare_13 : decode cX5_compare 13 = .ok (.aload_n 0, 1) := by decide +kernel
theorem dX5_compare_14 : decode cX5_compare 14 = .ok (.getfield 9, 3) := by decide +kernel
theorem dX5_compare_17 : decode cX5_compare 17 = .ok (.iload_n 2, 1) := by decide +kernel
theorem dX5_compare_18 : decode cX5_compare 18 = .ok (.laload, 1) := by decide +kernel
theorem dX5_compare_19 : decode cX5_compare 19 = .ok (.aload_n 1, 1) := by decide +kernel
theorem dX5_compare_20 : decode cX5_compare 20 = .ok (.iload_n 2, 1) := by decide +kernel
theorem dX5_compare_21 : decode cX5_compare 21 = .ok (.laload, 1) := by decide +kernel
theorem dX5_compare_22 : decode cX5_compare 22 = .ok (.lcmp, 1) := by decide +kernel
theorem dX5_compare_23 : decode cX5_compare 23 = .ok (.ifCond .eq 18, 3) := by decide +kernel
theorem dX5_compare_26 : decode cX5_compare 26 = .ok (.aload_n 0, 1) := by decide +kernel
theorem dX5_compare_27 : decode cX5_compare 27 = .ok (.dup, 1) := by decide +kernel
theorem dX5_compare_28 : decode cX5_compare 28 = .ok (.getfield 25, 3) := by decide +kernel
theorem dX5_compare_31 : decode cX5_compare 31 = .ok (.iconst 1, 1) := by decide +kernel
theorem dX5_compare_32 : decode cX5_compare 32 = .ok (.iadd, 1) := by decide +kernel
theorem dX5_compare_33 : decode cX5_compare 33 = .ok (.putfield 25, 3) := by decide +kernel
theorem dX5_compare_36 : decode cX5_compare 36 = .ok (.aload_n 0, 1) := by decide +kernel
theorem dX5_compare_37 : decode cX5_compare 37 = .ok (.iload_n 2, 1) := by decide +kernel
theorem dX5_compare_38 : decode cX5_compare 38 = .ok (.putfield 28, 3) := by decide +kernel
theorem dX5_compare_41 : decode cX5_compare 41 = .ok (.iinc 2 1, 3) := by decide +kernel
theorem dX5_compare_44 : decode cX5_compare 44 = .ok (.goto (-37), 3) := by decide +kernel
theorem dX5_compare_47 : decode cX5_compare 47 = .ok (.return_, 1) := by decide +kernel
theorem dX6_init_0 : decode cX6_init 0 = .ok (.aload_n 0, 1) := by decide +kernel
theorem dX6_init_1 : decode cX6_init 1 = .ok (.invokespecial 1, 3) := by decide +kernel
theorem dX6_init_4 : decode cX6_init 4 = .ok (.aload_n 0, 1) := by decide +kernel
theorem dX6_init_5 : decode cX6_init 5 = .ok (.bipush 20, 2) := by decide +kernel
theorem dX6_init_7 : decode cX6_init 7 = .ok (.newarray .int, 2) := by decide +kernel
theorem dX6_init_9 : decode cX6_init 9 = .ok (.putfield 9, 3) := by decide +kernel
theorem dX6_init_12 : decode cX6_init 12 = .ok (.aload_n 0, 1) := by decide +kernel
theorem dX6_init_13 : decode cX6_init 13 = .ok (.bipush 20, 2) := by decide +kernel
theorem dX6_init_15 : decode cX6_init 15 = .ok (.newarray .int, 2) := by decide +kernel
theorem dX6_init_17 : decode cX6_init 17 = .ok (.putfield 13, 3) := by decide +kernel
theorem dX6_init_20 : decode cX6_init 20 = .ok (.aload_n 0, 1) := by decide +kernel
theorem dX6_init_21 : decode cX6_init 21 = .ok (.bipush 20, 2) := by decide +kernel
theorem dX6_init_23 : decode cX6_init 23 = .ok (.newarray .int, 2) := by decide +kernel
theorem dX6_init_25 : decode cX6_init 25 = .ok (.putfield 16, 3) := by decide +kernel
theorem dX6_init_28 : decode cX6_init 28 = .ok (.aload_n 0, 1) := by decide +kernel
theorem dX6_init_29 : decode cX6_init 29 = .ok (.bipush 20, 2) := by decide +kernel
theorem dX6_init_31 : decode cX6_init 31 = .ok (.newarray .int, 2) := by decide +kernel
theorem dX6_init_33 : decode cX6_init 33 = .ok (.putfield 19, 3) := by decide +kernel
theorem dX6_init_36 : decode cX6_init 36 = .ok (.return_, 1) := by decide +kernel
theorem dX7_init_0 : decode cX7_init 0 = .ok (.aload_n 0, 1) := by decide +kernel
theorem dX7_init_1 : decode cX7_init 1 = .ok (.invokespecial 3, 3) := by decide +kernel
theorem dX7_init_4 : decode cX7_init 4 = .ok (.aload_n 0, 1) := by decide +kernel
theorem dX7_init_5 : decode cX7_init 5 = .ok (.bipush 96, 2) := by decide +kernel
theorem dX7_init_7 : decode cX7_init 7 = .ok (.newarray .int, 2) := by decide +kernel
theorem dX7_init_9 : decode cX7_init 9 = .ok (.putfield 9, 3) := by decide +kernel
theorem dX7_init_12 : decode cX7_init 12 = .ok (.aload_n 0, 1) := by decide +kernel
theorem dX7_init_13 : decode cX7_init 13 = .ok (.bipush 80, 2) := by decide +kernel
theorem dX7_init_15 : decode cX7_init 15 = .ok (.newarray .long, 2) := by decide +kernel
theorem dX7_init_17 : decode cX7_init 17 = .ok (.putfield 15, 3) := by decide +kernel
theorem dX7_init_20 : decode cX7_init 20 = .ok (.aload_n 0, 1) := by decide +kernel
theorem dX7_init_21 : decode cX7_init 21 = .ok (.bipush 80, 2) := by decide +kernel
theorem dX7_init_23 : decode cX7_init 23 = .ok (.newarray .boolean, 2) := by decide +kernel
theorem dX7_init_25 : decode cX7_init 25 = .ok (.putfield 19, 3) := by decide +kernel
theorem dX7_init_28 : decode cX7_init 28 = .ok (.aload_n 0, 1) := by decide +kernel
theorem dX7_init_29 : decode cX7_init 29 = .ok (.bipush 100, 2) := by decide +kernel
theorem dX7_init_31 : decode cX7_init 31 = .ok (.putfield 23, 3) := by decide +kernel
theorem dX7_init_34 : decode cX7_init 34 = .ok (.aload_n 0, 1) := by decide +kernel
theorem dX7_init_35 : decode cX7_init 35 = .ok (.sipush 1000, 3) := by decide +kernel
theorem dX7_init_38 : decode cX7_init 38 = .ok (.putfield 27, 3) := by decide +kernel
theorem dX7_init_41 : decode cX7_init 41 = .ok (.return_, 1) := by decide +kernel
theorem dX7_copyFrom_0 : decode cX7_copyFrom 0 = .ok (.aload_n 1, 1) := by decide +kernel
theorem dX7_copyFrom_1 : decode cX7_copyFrom 1 = .ok (.getfield 9, 3) := by decide +kernel
theorem dX7_copyFrom_4 : decode cX7_copyFrom 4 = .ok (.iconst 0, 1) := by decide +kernel
theorem dX7_copyFrom_5 : decode cX7_copyFrom 5 = .ok (.aload_n 0, 1) := by decide +kernel
theorem dX7_copyFrom_6 : decode cX7_copyFrom 6 = .ok (.getfield 9, 3) := by decide +kernel
theorem dX7_copyFrom_9 : decode cX7_copyFrom 9 = .ok (.iconst 0, 1) := by decide +kernel
theorem dX7_copyFrom_10 : decode cX7_copyFrom 10 = .ok (.aload_n 0, 1) := by decide +kernel
theorem dX7_copyFrom_11 : decode cX7_copyFrom 11 = .ok (.getfield 9, 3) := by decide +kernel
theorem dX7_copyFrom_14 : decode cX7_copyFrom 14 = .ok (.arraylength, 1) := by decide +kernel
theorem dX7_copyFrom_15 : decode cX7_copyFrom 15 = .ok (.invokestatic 30, 3) := by decide +kernel
theorem dX7_copyFrom_18 : decode cX7_copyFrom 18 = .ok (.aload_n 1, 1) := by decide +kernel
theorem dX7_copyFrom_19 : decode cX7_copyFrom 19 = .ok (.getfield 15, 3) := by decide +kernel
theorem dX7_copyFrom_22 : decode cX7_copyFrom 22 = .ok (.iconst 0, 1) := by decide +kernel
theorem dX7_copyFrom_23 : decode cX7_copyFrom 23 = .ok (.aload_n 0, 1) := by decide +kernel
theorem dX7_copyFrom_24 : decode cX7_copyFrom 24 = .ok (.getfield 15, 3) := by decide +kernel
theorem dX7_copyFrom_27 : decode cX7_copyFrom 27 = .ok (.iconst 0, 1) := by decide +kernel
theorem dX7_copyFrom_28 : decode cX7_copyFrom 28 = .ok (.aload_n 0, 1) := by decide +kernel
theorem dX7_copyFrom_29 : decode cX7_copyFrom 29 = .ok (.getfield 15, 3) := by decide +kernel
theorem dX7_copyFrom_32 : decode cX7_copyFrom 32 = .ok (.arraylength, 1) := by decide +kernel
theorem dX7_copyFrom_33 : decode cX7_copyFrom 33 = .ok (.invokestatic 30, 3) := by decide +kernel
theorem dX7_copyFrom_36 : decode cX7_copyFrom 36 = .ok (.iconst 0, 1) := by decide +kernel
theorem dX7_copyFrom_37 : decode cX7_copyFrom 37 = .ok (.istore_n 2, 1) := by decide +kernel
theorem dX7_copyFrom_38 : decode cX7_copyFrom 38 = .ok (.iload_n 2, 1) := by decide +kernel
theorem dX7_copyFrom_39 : decode cX7_copyFrom 39 = .ok (.bipush 80, 2) := by decide +kernel
theorem dX7_copyFrom_41 : decode cX7_copyFrom 41 = .ok (.if_icmp .ge 21, 3) := by decide +kernel
theorem dX7_copyFrom_44 : decode cX7_copyFrom 44 = .ok (.aload_n 0, 1) := by decide +kernel
theorem dX7_copyFrom_45 : decode cX7_copyFrom 45 = .ok (.getfield 19, 3) := by decide +kernel
theorem dX7_copyFrom_48 : decode cX7_copyFrom 48 = .ok (.iload_n 2, 1) := by decide +kernel
theorem dX7_copyFrom_49 : decode cX7_copyFrom 49 = .ok (.aload_n 1, 1) := by decide +kernel
theorem dX7_copyFrom_50 : decode cX7_copyFrom 50 = .ok (.getfield 19, 3) := by decide +kernel
theorem dX7_copyFrom_53 : decode cX7_copyFrom 53 = .ok (.iload_n 2, 1) := by decide +kernel
theorem dX7_copyFrom_54 : decode cX7_copyFrom 54 = .ok (.baload, 1) := by decide +kernel
theorem dX7_copyFrom_55 : decode cX7_copyFrom 55 = .ok (.bastore, 1) := by decide +kernel
theorem dX7_copyFrom_56 : decode cX7_copyFrom 56 = .ok (.iinc 2 1, 3) := by decide +kernel
theorem dX7_copyFrom_59 : decode cX7_copyFrom 59 = .ok (.goto (-21), 3) := by decide +kernel
theorem dX7_copyFrom_62 : decode cX7_copyFrom 62 = .ok (.aload_n 0, 1) := by decide +kernel
theorem dX7_copyFrom_63 : decode cX7_copyFrom 63 = .ok (.aload_n 1, 1) := by decide +kernel
theorem dX7_copyFrom_64 : decode cX7_copyFrom 64 = .ok (.getfield 36, 3) := by decide +kernel
theorem dX7_copyFrom_67 : decode cX7_copyFrom 67 = .ok (.putfield 36, 3) := by decide +kernel
theorem dX7_copyFrom_70 : decode cX7_copyFrom 70 = .ok (.aload_n 0, 1) := by decide +kernel
theorem dX7_copyFrom_71 : decode cX7_copyFrom 71 = .ok (.aload_n 1, 1) := by decide +kernel
theorem dX7_copyFrom_72 : decode cX7_copyFrom 72 = .ok (.getfield 23, 3) := by decide +kernel
theorem dX7_copyFrom_75 : decode cX7_copyFrom 75 = .ok (.putfield 23, 3) := by decide +kernel
theorem dX7_copyFrom_78 : decode cX7_copyFrom 78 = .ok (.aload_n 0, 1) := by decide +kernel
theorem dX7_copyFrom_79 : decode cX7_copyFrom 79 = .ok (.aload_n 1, 1) := by decide +kernel
theorem dX7_copyFrom_80 : decode cX7_copyFrom 80 = .ok (.getfield 27, 3) := by decide +kernel
theorem dX7_copyFrom_83 : decode cX7_copyFrom 83 = .ok (.putfield 27, 3) := by decide +kernel
theorem dX7_copyFrom_86 : decode cX7_copyFrom 86 = .ok (.return_, 1) := by decide +kernel
theorem dX7_partsOf_0 : decode cX7_partsOf 0 = .ok (.aload_n 0, 1) := by decide +kernel
theorem dX7_partsOf_1 : decode cX7_partsOf 1 = .ok (.getfield 9, 3) := by decide +kernel
theorem dX7_partsOf_4 : decode cX7_partsOf 4 = .ok (.iload_n 1, 1) := by decide +kernel
theorem dX7_partsOf_5 : decode cX7_partsOf 5 = .ok (.bipush 6, 2) := by decide +kernel
theorem dX7_partsOf_7 : decode cX7_partsOf 7 = .ok (.imul, 1) := by decide +kernel
theorem dX7_partsOf_8 : decode cX7_partsOf 8 = .ok (.iload_n 2, 1) := by decide +kernel
theorem dX7_partsOf_9 : decode cX7_partsOf 9 = .ok (.iadd, 1) := by decide +kernel
theorem dX7_partsOf_10 : decode cX7_partsOf 10 = .ok (.iaload, 1) := by decide +kernel
theorem dX7_partsOf_11 : decode cX7_partsOf 11 = .ok (.ireturn, 1) := by decide +kernel
theorem dX7_setParts_0 : decode cX7_setParts 0 = .ok (.aload_n 0, 1) := by decide +kernel
theorem dX7_setParts_1 : decode cX7_setParts 1 = .ok (.getfield 9, 3) := by decide +kernel
theorem dX7_setParts_4 : decode cX7_setParts 4 = .ok (.iload_n 1, 1) := by decide +kernel
theorem dX7_setParts_5 : decode cX7_setParts 5 = .ok (.bipush 6, 2) := by decide +kernel
theorem dX7_setParts_7 : decode cX7_setParts 7 = .ok (.imul, 1) := by decide +kernel
theorem dX7_setParts_8 : decode cX7_setParts 8 = .ok (.iload_n 2, 1) := by decide +kernel
theorem dX7_setParts_9 : decode cX7_setParts 9 = .ok (.iadd, 1) := by decide +kernel
theorem dX7_setParts_10 : decode cX7_setParts 10 = .ok (.iload_n 3, 1) := by decide +kernel
theorem dX7_setParts_11 : decode cX7_setParts 11 = .ok (.iastore, 1) := by decide +kernel
theorem dX7_setParts_12 : decode cX7_setParts 12 = .ok (.return_, 1) := by decide +kernel
theorem dX7_weightOf_0 : decode cX7_weightOf 0 = .ok (.iconst 0, 1) := by decide +kernel
theorem dX7_weightOf_1 : decode cX7_weightOf 1 = .ok (.istore_n 3, 1) := by decide +kernel
theorem dX7_weightOf_2 : decode cX7_weightOf 2 = .ok (.iconst 0, 1) := by decide +kernel
theorem dX7_weightOf_3 : decode cX7_weightOf 3 = .ok (.istore 4, 2) := by decide +kernel
theorem dX7_weightOf_5 : decode cX7_weightOf 5 = .ok (.iload 4, 2) := by decide +kernel
theorem dX7_weightOf_7 : decode cX7_weightOf 7 = .ok (.bipush 6, 2) := by decide +kernel
theorem dX7_weightOf_9 : decode cX7_weightOf 9 = .ok (.if_icmp .ge 27, 3) := by decide +kernel
theorem dX7_weightOf_12 : decode cX7_weightOf 12 = .ok (.iload_n 3, 1) := by decide +kernel
theorem dX7_weightOf_13 : decode cX7_weightOf 13 = .ok (.aload_n 0, 1) := by decide +kernel
theorem dX7_weightOf_14 : decode cX7_weightOf 14 = .ok (.iload_n 1, 1) := by decide +kernel
theorem dX7_weightOf_15 : decode cX7_weightOf 15 = .ok (.iload 4, 2) := by decide +kernel
theorem dX7_weightOf_17 : decode cX7_weightOf 17 = .ok (.invokevirtual 39, 3) := by decide +kernel
theorem dX7_weightOf_20 : decode cX7_weightOf 20 = .ok (.aload_n 2, 1) := by decide +kernel
theorem dX7_weightOf_21 : decode cX7_weightOf 21 = .ok (.getfield 43, 3) := by decide +kernel
theorem dX7_weightOf_24 : decode cX7_weightOf 24 = .ok (.iload 4, 2) := by decide +kernel
theorem dX7_weightOf_26 : decode cX7_weightOf 26 = .ok (.iaload, 1) := by decide +kernel
theorem dX7_weightOf_27 : decode cX7_weightOf 27 = .ok (.imul, 1) := by decide +kernel
theorem dX7_weightOf_28 : decode cX7_weightOf 28 = .ok (.iadd, 1) := by decide +kernel
theorem dX7_weightOf_29 : decode cX7_weightOf 29 = .ok (.istore_n 3, 1) := by decide +kernel
theorem dX7_weightOf_30 : decode cX7_weightOf 30 = .ok (.iinc 4 1, 3) := by decide +kernel
theorem dX7_weightOf_33 : decode cX7_weightOf 33 = .ok (.goto (-28), 3) := by decide +kernel
theorem dX7_weightOf_36 : decode cX7_weightOf 36 = .ok (.iload_n 3, 1) := by decide +kernel
theorem dX7_weightOf_37 : decode cX7_weightOf 37 = .ok (.ireturn, 1) := by decide +kernel
theorem dX7_timesOf_0 : decode cX7_timesOf 0 = .ok (.aload_n 0, 1) := by decide +kernel
theorem dX7_timesOf_1 : decode cX7_timesOf 1 = .ok (.iload_n 1, 1) := by decide +kernel
theorem dX7_timesOf_2 : decode cX7_timesOf 2 = .ok (.aload_n 3, 1) := by decide +kernel
theorem dX7_timesOf_3 : decode cX7_timesOf 3 = .ok (.iload_n 2, 1) := by decide +kernel
theorem dX7_timesOf_4 : decode cX7_timesOf 4 = .ok (.iconst 0, 1) := by decide +kernel
theorem dX7_timesOf_5 : decode cX7_timesOf 5 = .ok (.invokevirtual 48, 3) := by decide +kernel
theorem dX7_timesOf_8 : decode cX7_timesOf 8 = .ok (.invokevirtual 39, 3) := by decide +kernel
theorem dX7_timesOf_11 : decode cX7_timesOf 11 = .ok (.istore 5, 2) := by decide +kernel
theorem dX7_timesOf_13 : decode cX7_timesOf 13 = .ok (.iload 5, 2) := by decide +kernel
theorem dX7_timesOf_15 : decode cX7_timesOf 15 = .ok (.aload_n 3, 1) := by decide +kernel
theorem dX7_timesOf_16 : decode cX7_timesOf 16 = .ok (.iload_n 2, 1) := by decide +kernel
theorem dX7_timesOf_17 : decode cX7_timesOf 17 = .ok (.iconst 1, 1) := by decide +kernel
theorem dX7_timesOf_18 : decode cX7_timesOf 18 = .ok (.invokevirtual 48, 3) := by decide +kernel
theorem dX7_timesOf_21 : decode cX7_timesOf 21 = .ok (.invokestatic 51, 3) := by decide +kernel
theorem dX7_timesOf_24 : decode cX7_timesOf 24 = .ok (.iload 4, 2) := by decide +kernel
theorem dX7_timesOf_26 : decode cX7_timesOf 26 = .ok (.invokestatic 54, 3) := by decide +kernel
theorem dX7_timesOf_29 : decode cX7_timesOf 29 = .ok (.ireturn, 1) := by decide +kernel
theorem dX7_burn_0 : decode cX7_burn 0 = .ok (.iload_n 1, 1) := by decide +kernel
theorem dX7_burn_1 : decode cX7_burn 1 = .ok (.bipush 6, 2) := by decide +kernel
theorem dX7_burn_3 : decode cX7_burn 3 = .ok (.imul, 1) := by decide +kernel
theorem dX7_burn_4 : decode cX7_burn 4 = .ok (.aload_n 3, 1) := by decide +kernel
theorem dX7_burn_5 : decode cX7_burn 5 = .ok (.iload_n 2, 1) := by decide +kernel
theorem dX7_burn_6 : decode cX7_burn 6 = .ok (.iconst 2, 1) := by decide +kernel
theorem dX7_burn_7 : decode cX7_burn 7 = .ok (.invokevirtual 48, 3) := by decide +kernel
theorem dX7_burn_10 : decode cX7_burn 10 = .ok (.iadd, 1) := by decide +kernel
theorem dX7_burn_11 : decode cX7_burn 11 = .ok (.istore 5, 2) := by decide +kernel
theorem dX7_burn_13 : decode cX7_burn 13 = .ok (.aload_n 3, 1) := by decide +kernel
theorem dX7_burn_14 : decode cX7_burn 14 = .ok (.iload_n 2, 1) := by decide +kernel
theorem dX7_burn_15 : decode cX7_burn 15 = .ok (.iconst 3, 1) := by decide +kernel
theorem dX7_burn_16 : decode cX7_burn 16 = .ok (.invokevirtual 48, 3) := by decide +kernel
theorem dX7_burn_19 : decode cX7_burn 19 = .ok (.istore 6, 2) := by decide +kernel
theorem dX7_burn_21 : decode cX7_burn 21 = .ok (.aload_n 0, 1) := by decide +kernel
theorem dX7_burn_22 : decode cX7_burn 22 = .ok (.iload_n 1, 1) := by decide +kernel
theorem dX7_burn_23 : decode cX7_burn 23 = .ok (.iload_n 2, 1) := by decide +kernel
theorem dX7_burn_24 : decode cX7_burn 24 = .ok (.aload_n 3, 1) := by decide +kernel
theorem dX7_burn_25 : decode cX7_burn 25 = .ok (.iload 4, 2) := by decide +kernel
theorem dX7_burn_27 : decode cX7_burn 27 = .ok (.invokevirtual 59, 3) := by decide +kernel
theorem dX7_burn_30 : decode cX7_burn 30 = .ok (.ldc 63, 2) := by decide +kernel
theorem dX7_burn_32 : decode cX7_burn 32 = .ok (.aload_n 0, 1) := by decide +kernel
theorem dX7_burn_33 : decode cX7_burn 33 = .ok (.getfield 9, 3) := by decide +kernel
theorem dX7_burn_36 : decode cX7_burn 36 = .ok (.iload 5, 2) := by decide +kernel
theorem dX7_burn_38 : decode cX7_burn 38 = .ok (.iaload, 1) := by decide +kernel
theorem dX7_burn_39 : decode cX7_burn 39 = .ok (.isub, 1) := by decide +kernel
theorem dX7_burn_40 : decode cX7_burn 40 = .ok (.iload 6, 2) := by decide +kernel
theorem dX7_burn_42 : decode cX7_burn 42 = .ok (.invokestatic 51, 3) := by decide +kernel
theorem dX7_burn_45 : decode cX7_burn 45 = .ok (.invokestatic 54, 3) := by decide +kernel
theorem dX7_burn_48 : decode cX7_burn 48 = .ok (.istore 7, 2) := by decide +kernel
theorem dX7_burn_50 : decode cX7_burn 50 = .ok (.aload_n 0, 1) := by decide +kernel
theorem dX7_burn_51 : decode cX7_burn 51 = .ok (.getfield 9, 3) := by decide +kernel
theorem dX7_burn_54 : decode cX7_burn 54 = .ok (.iload_n 1, 1) := by decide +kernel
theorem dX7_burn_55 : decode cX7_burn 55 = .ok (.bipush 6, 2) := by decide +kernel
theorem dX7_burn_57 : decode cX7_burn 57 = .ok (.imul, 1) := by decide +kernel
theorem dX7_burn_58 : decode cX7_burn 58 = .ok (.aload_n 3, 1) := by decide +kernel
theorem dX7_burn_59 : decode cX7_burn 59 = .ok (.iload_n 2, 1) := by decide +kernel
theorem dX7_burn_60 : decode cX7_burn 60 = .ok (.iconst 0, 1) := by decide +kernel
theorem dX7_burn_61 : decode cX7_burn 61 = .ok (.invokevirtual 48, 3) := by decide +kernel
theorem dX7_burn_64 : decode cX7_burn 64 = .ok (.iadd, 1) := by decide +kernel
theorem dX7_burn_65 : decode cX7_burn 65 = .ok (.dup2, 1) := by decide +kernel
theorem dX7_burn_66 : decode cX7_burn 66 = .ok (.iaload, 1) := by decide +kernel
theorem dX7_burn_67 : decode cX7_burn 67 = .ok (.iload 7, 2) := by decide +kernel
theorem dX7_burn_69 : decode cX7_burn 69 = .ok (.aload_n 3, 1) := by decide +kernel
theorem dX7_burn_70 : decode cX7_burn 70 = .ok (.iload_n 2, 1) := by decide +kernel
theorem dX7_burn_71 : decode cX7_burn 71 = .ok (.iconst 1, 1) := by decide +kernel
theorem dX7_burn_72 : decode cX7_burn 72 = .ok (.invokevirtual 48, 3) := by decide +kernel
theorem dX7_burn_75 : decode cX7_burn 75 = .ok (.imul, 1) := by decide +kernel
theorem dX7_burn_76 : decode cX7_burn 76 = .ok (.isub, 1) := by decide +kernel
theorem dX7_burn_77 : decode cX7_burn 77 = .ok (.iastore, 1) := by decide +kernel
theorem dX7_burn_78 : decode cX7_burn 78 = .ok (.aload_n 0, 1) := by decide +kernel
theorem dX7_burn_79 : decode cX7_burn 79 = .ok (.getfield 9, 3) := by decide +kernel
theorem dX7_burn_82 : decode cX7_burn 82 = .ok (.iload 5, 2) := by decide +kernel
theorem dX7_burn_84 : decode cX7_burn 84 = .ok (.dup2, 1) := by decide +kernel
theorem dX7_burn_85 : decode cX7_burn 85 = .ok (.iaload, 1) := by decide +kernel
theorem dX7_burn_86 : decode cX7_burn 86 = .ok (.iload 7, 2) := by decide +kernel
theorem dX7_burn_88 : decode cX7_burn 88 = .ok (.iload 6, 2) := by decide +kernel
theorem dX7_burn_90 : decode cX7_burn 90 = .ok (.imul, 1) := by decide +kernel
theorem dX7_burn_91 : decode cX7_burn 91 = .ok (.iadd, 1) := by decide +kernel
theorem dX7_burn_92 : decode cX7_burn 92 = .ok (.iastore, 1) := by decide +kernel
theorem dX7_burn_93 : decode cX7_burn 93 = .ok (.iload 7, 2) := by decide +kernel
theorem dX7_burn_95 : decode cX7_burn 95 = .ok (.i2l, 1) := by decide +kernel
theorem dX7_burn_96 : decode cX7_burn 96 = .ok (.aload_n 3, 1) := by decide +kernel
theorem dX7_burn_97 : decode cX7_burn 97 = .ok (.iload_n 2, 1) := by decide +kernel
theorem dX7_burn_98 : decode cX7_burn 98 = .ok (.iconst 4, 1) := by decide +kernel
theorem dX7_burn_99 : decode cX7_burn 99 = .ok (.invokevirtual 48, 3) := by decide +kernel
theorem dX7_burn_102 : decode cX7_burn 102 = .ok (.i2l, 1) := by decide +kernel
theorem dX7_burn_103 : decode cX7_burn 103 = .ok (.lmul, 1) := by decide +kernel
theorem dX7_burn_104 : decode cX7_burn 104 = .ok (.lstore 8, 2) := by decide +kernel
theorem dX7_burn_106 : decode cX7_burn 106 = .ok (.aload_n 0, 1) := by decide +kernel
theorem dX7_burn_107 : decode cX7_burn 107 = .ok (.getfield 15, 3) := by decide +kernel
theorem dX7_burn_110 : decode cX7_burn 110 = .ok (.iload_n 1, 1) := by decide +kernel
theorem dX7_burn_111 : decode cX7_burn 111 = .ok (.iconst 5, 1) := by decide +kernel
theorem dX7_burn_112 : decode cX7_burn 112 = .ok (.imul, 1) := by decide +kernel
theorem dX7_burn_113 : decode cX7_burn 113 = .ok (.iload_n 2, 1) := by decide +kernel
theorem dX7_burn_114 : decode cX7_burn 114 = .ok (.iadd, 1) := by decide +kernel
theorem dX7_burn_115 : decode cX7_burn 115 = .ok (.dup2, 1) := by decide +kernel
theorem dX7_burn_116 : decode cX7_burn 116 = .ok (.laload, 1) := by decide +kernel
theorem dX7_burn_117 : decode cX7_burn 117 = .ok (.lload 8, 2) := by decide +kernel
theorem dX7_burn_119 : decode cX7_burn 119 = .ok (.ladd, 1) := by decide +kernel
theorem dX7_burn_120 : decode cX7_burn 120 = .ok (.lastore, 1) := by decide +kernel
theorem dX7_burn_121 : decode cX7_burn 121 = .ok (.lload 8, 2) := by decide +kernel
theorem dX7_burn_123 : decode cX7_burn 123 = .ok (.lreturn, 1) := by decide +kernel
theorem dX7_mix_0 : decode cX7_mix 0 = .ok (.iload_n 2, 1) := by decide +kernel
theorem dX7_mix_1 : decode cX7_mix 1 = .ok (.iload_n 1, 1) := by decide +kernel
theorem dX7_mix_2 : decode cX7_mix 2 = .ok (.isub, 1) := by decide +kernel
theorem dX7_mix_3 : decode cX7_mix 3 = .ok (.iconst 1, 1) := by decide +kernel
theorem dX7_mix_4 : decode cX7_mix 4 = .ok (.iadd, 1) := by decide +kernel
theorem dX7_mix_5 : decode cX7_mix 5 = .ok (.istore_n 3, 1) := by decide +kernel
theorem dX7_mix_6 : decode cX7_mix 6 = .ok (.iconst 0, 1) := by decide +kernel
theorem dX7_mix_7 : decode cX7_mix 7 = .ok (.istore 4, 2) := by decide +kernel
theorem dX7_mix_9 : decode cX7_mix 9 = .ok (.iload 4, 2) := by decide +kernel
theorem dX7_mix_11 : decode cX7_mix 11 = .ok (.bipush 6, 2) := by decide +kernel
theorem dX7_mix_13 : decode cX7_mix 13 = .ok (.if_icmp .ge 98, 3) := by decide +kernel
theorem dX7_mix_16 : decode cX7_mix 16 = .ok (.iconst 0, 1) := by decide +kernel
theorem dX7_mix_17 : decode cX7_mix 17 = .ok (.istore 5, 2) := by decide +kernel
theorem dX7_mix_19 : decode cX7_mix 19 = .ok (.iload_n 1, 1) := by decide +kernel
theorem dX7_mix_20 : decode cX7_mix 20 = .ok (.istore 6, 2) := by decide +kernel
theorem dX7_mix_22 : decode cX7_mix 22 = .ok (.iload 6, 2) := by decide +kernel
theorem dX7_mix_24 : decode cX7_mix 24 = .ok (.iload_n 2, 1) := by decide +kernel
theorem dX7_mix_25 : decode cX7_mix 25 = .ok (.if_icmp .gt 22, 3) := by decide +kernel
theorem dX7_mix_28 : decode cX7_mix 28 = .ok (.iload 5, 2) := by decide +kernel
theorem dX7_mix_30 : decode cX7_mix 30 = .ok (.aload_n 0, 1) := by decide +kernel
theorem dX7_mix_31 : decode cX7_mix 31 = .ok (.iload 6, 2) := by decide +kernel
theorem dX7_mix_33 : decode cX7_mix 33 = .ok (.iload 4, 2) := by decide +kernel
theorem dX7_mix_35 : decode cX7_mix 35 = .ok (.invokevirtual 39, 3) := by decide +kernel
theorem dX7_mix_38 : decode cX7_mix 38 = .ok (.iadd, 1) := by decide +kernel
theorem dX7_mix_39 : decode cX7_mix 39 = .ok (.istore 5, 2) := by decide +kernel
theorem dX7_mix_41 : decode cX7_mix 41 = .ok (.iinc 6 1, 3) := by decide +kernel
theorem dX7_mix_44 : decode cX7_mix 44 = .ok (.goto (-22), 3) := by decide +kernel
theorem dX7_mix_47 : decode cX7_mix 47 = .ok (.iload 5, 2) := by decide +kernel
theorem dX7_mix_49 : decode cX7_mix 49 = .ok (.iload_n 3, 1) := by decide +kernel
theorem dX7_mix_50 : decode cX7_mix 50 = .ok (.invokestatic 51, 3) := by decide +kernel
theorem dX7_mix_53 : decode cX7_mix 53 = .ok (.istore 6, 2) := by decide +kernel
theorem dX7_mix_55 : decode cX7_mix 55 = .ok (.iload 5, 2) := by decide +kernel
theorem dX7_mix_57 : decode cX7_mix 57 = .ok (.iload 6, 2) := by decide +kernel
theorem dX7_mix_59 : decode cX7_mix 59 = .ok (.iload_n 3, 1) := by decide +kernel
theorem dX7_mix_60 : decode cX7_mix 60 = .ok (.imul, 1) := by decide +kernel
theorem dX7_mix_61 : decode cX7_mix 61 = .ok (.isub, 1) := by decide +kernel
theorem dX7_mix_62 : decode cX7_mix 62 = .ok (.istore 7, 2) := by decide +kernel
theorem dX7_mix_64 : decode cX7_mix 64 = .ok (.iload_n 1, 1) := by decide +kernel
theorem dX7_mix_65 : decode cX7_mix 65 = .ok (.istore 8, 2) := by decide +kernel
theorem dX7_mix_67 : decode cX7_mix 67 = .ok (.iload 8, 2) := by decide +kernel
theorem dX7_mix_69 : decode cX7_mix 69 = .ok (.iload_n 2, 1) := by decide +kernel
theorem dX7_mix_70 : decode cX7_mix 70 = .ok (.if_icmp .gt 35, 3) := by decide +kernel
theorem dX7_mix_73 : decode cX7_mix 73 = .ok (.aload_n 0, 1) := by decide +kernel
theorem dX7_mix_74 : decode cX7_mix 74 = .ok (.iload 8, 2) := by decide +kernel
theorem dX7_mix_76 : decode cX7_mix 76 = .ok (.iload 4, 2) := by decide +kernel
theorem dX7_mix_78 : decode cX7_mix 78 = .ok (.iload 8, 2) := by decide +kernel
theorem dX7_mix_80 : decode cX7_mix 80 = .ok (.iload_n 1, 1) := by decide +kernel
theorem dX7_mix_81 : decode cX7_mix 81 = .ok (.isub, 1) := by decide +kernel
theorem dX7_mix_82 : decode cX7_mix 82 = .ok (.iload 7, 2) := by decide +kernel
theorem dX7_mix_84 : decode cX7_mix 84 = .ok (.if_icmp .ge 10, 3) := by decide +kernel
theorem dX7_mix_87 : decode cX7_mix 87 = .ok (.iload 6, 2) := by decide +kernel
theorem dX7_mix_89 : decode cX7_mix 89 = .ok (.iconst 1, 1) := by decide +kernel
theorem dX7_mix_90 : decode cX7_mix 90 = .ok (.iadd, 1) := by decide +kernel
theorem dX7_mix_91 : decode cX7_mix 91 = .ok (.goto 5, 3) := by decide +kernel
theorem dX7_mix_94 : decode cX7_mix 94 = .ok (.iload 6, 2) := by decide +kernel
theorem dX7_mix_96 : decode cX7_mix 96 = .ok (.invokevirtual 64, 3) := by decide +kernel
theorem dX7_mix_99 : decode cX7_mix 99 = .ok (.iinc 8 1, 3) := by decide +kernel
theorem dX7_mix_102 : decode cX7_mix 102 = .ok (.goto (-35), 3) := by decide +kernel
theorem dX7_mix_105 : decode cX7_mix 105 = .ok (.iinc 4 1, 3) := by decide +kernel
theorem dX7_mix_108 : decode cX7_mix 108 = .ok (.goto (-99), 3) := by decide +kernel
theorem dX7_mix_111 : decode cX7_mix 111 = .ok (.return_, 1) := by decide +kernel
theorem dX7_giveRim_0 : decode cX7_giveRim 0 = .ok (.aload_n 0, 1) := by decide +kernel
theorem dX7_giveRim_1 : decode cX7_giveRim 1 = .ok (.getfield 36, 3) := by decide +kernel
theorem dX7_giveRim_4 : decode cX7_giveRim 4 = .ok (.ifCond .eq 10, 3) := by decide +kernel
theorem dX7_giveRim_7 : decode cX7_giveRim 7 = .ok (.aload_n 1, 1) := by decide +kernel
theorem dX7_giveRim_8 : decode cX7_giveRim 8 = .ok (.getfield 36, 3) := by decide +kernel
theorem dX7_giveRim_11 : decode cX7_giveRim 11 = .ok (.ifCond .ne 5, 3) := by decide +kernel
theorem dX7_giveRim_14 : decode cX7_giveRim 14 = .ok (.iconst 0, 1) := by decide +kernel
theorem dX7_giveRim_15 : decode cX7_giveRim 15 = .ok (.ireturn, 1) := by decide +kernel
theorem dX7_giveRim_16 : decode cX7_giveRim 16 = .ok (.iload_n 2, 1) := by decide +kernel
theorem dX7_giveRim_17 : decode cX7_giveRim 17 = .ok (.istore_n 3, 1) := by decide +kernel
theorem dX7_giveRim_18 : decode cX7_giveRim 18 = .ok (.iconst 0, 1) := by decide +kernel
theorem dX7_giveRim_19 : decode cX7_giveRim 19 = .ok (.istore 4, 2) := by decide +kernel
theorem dX7_giveRim_21 : decode cX7_giveRim 21 = .ok (.iload 4, 2) := by decide +kernel
theorem dX7_giveRim_23 : decode cX7_giveRim 23 = .ok (.bipush 6, 2) := by decide +kernel
theorem dX7_giveRim_25 : decode cX7_giveRim 25 = .ok (.if_icmp .ge 54, 3) := by decide +kernel
theorem dX7_giveRim_28 : decode cX7_giveRim 28 = .ok (.aload_n 0, 1) := by decide +kernel
theorem dX7_giveRim_29 : decode cX7_giveRim 29 = .ok (.aload_n 0, 1) := by decide +kernel
theorem dX7_giveRim_30 : decode cX7_giveRim 30 = .ok (.getfield 36, 3) := by decide +kernel
theorem dX7_giveRim_33 : decode cX7_giveRim 33 = .ok (.iconst 1, 1) := by decide +kernel
theorem dX7_giveRim_34 : decode cX7_giveRim 34 = .ok (.isub, 1) := by decide +kernel
theorem dX7_giveRim_35 : decode cX7_giveRim 35 = .ok (.iload 4, 2) := by decide +kernel
theorem dX7_giveRim_37 : decode cX7_giveRim 37 = .ok (.invokevirtual 39, 3) := by decide +kernel
theorem dX7_giveRim_40 : decode cX7_giveRim 40 = .ok (.iload_n 3, 1) := by decide +kernel
theorem dX7_giveRim_41 : decode cX7_giveRim 41 = .ok (.invokestatic 54, 3) := by decide +kernel
theorem dX7_giveRim_44 : decode cX7_giveRim 44 = .ok (.istore 5, 2) := by decide +kernel
theorem dX7_giveRim_46 : decode cX7_giveRim 46 = .ok (.aload_n 1, 1) := by decide +kernel
theorem dX7_giveRim_47 : decode cX7_giveRim 47 = .ok (.aload_n 1, 1) := by decide +kernel
theorem dX7_giveRim_48 : decode cX7_giveRim 48 = .ok (.getfield 36, 3) := by decide +kernel
theorem dX7_giveRim_51 : decode cX7_giveRim 51 = .ok (.iconst 1, 1) := by decide +kernel
theorem dX7_giveRim_52 : decode cX7_giveRim 52 = .ok (.isub, 1) := by decide +kernel
theorem dX7_giveRim_53 : decode cX7_giveRim 53 = .ok (.iload 4, 2) := by decide +kernel
theorem dX7_giveRim_55 : decode cX7_giveRim 55 = .ok (.invokevirtual 39, 3) := by decide +kernel
theorem dX7_giveRim_58 : decode cX7_giveRim 58 = .ok (.iload 5, 2) := by decide +kernel
theorem dX7_giveRim_60 : decode cX7_giveRim 60 = .ok (.iadd, 1) := by decide +kernel
theorem dX7_giveRim_61 : decode cX7_giveRim 61 = .ok (.ldc 63, 2) := by decide +kernel
theorem dX7_giveRim_63 : decode cX7_giveRim 63 = .ok (.if_icmp .le 5, 3) := by decide +kernel
theorem dX7_giveRim_66 : decode cX7_giveRim 66 = .ok (.iconst 0, 1) := by decide +kernel
theorem dX7_giveRim_67 : decode cX7_giveRim 67 = .ok (.ireturn, 1) := by decide +kernel
theorem dX7_giveRim_68 : decode cX7_giveRim 68 = .ok (.iload_n 3, 1) := by decide +kernel
theorem dX7_giveRim_69 : decode cX7_giveRim 69 = .ok (.iload 5, 2) := by decide +kernel
theorem dX7_giveRim_71 : decode cX7_giveRim 71 = .ok (.isub, 1) := by decide +kernel
theorem dX7_giveRim_72 : decode cX7_giveRim 72 = .ok (.istore_n 3, 1) := by decide +kernel
theorem dX7_giveRim_73 : decode cX7_giveRim 73 = .ok (.iinc 4 1, 3) := by decide +kernel
theorem dX7_giveRim_76 : decode cX7_giveRim 76 = .ok (.goto (-55), 3) := by decide +kernel
theorem dX7_giveRim_79 : decode cX7_giveRim 79 = .ok (.iload_n 3, 1) := by decide +kernel
theorem dX7_giveRim_80 : decode cX7_giveRim 80 = .ok (.ifCond .le 5, 3) := by decide +kernel
theorem dX7_giveRim_83 : decode cX7_giveRim 83 = .ok (.iconst 0, 1) := by decide +kernel
theorem dX7_giveRim_84 : decode cX7_giveRim 84 = .ok (.ireturn, 1) := by decide +kernel
theorem dX7_giveRim_85 : decode cX7_giveRim 85 = .ok (.iload_n 2, 1) := by decide +kernel
theorem dX7_giveRim_86 : decode cX7_giveRim 86 = .ok (.istore_n 3, 1) := by decide +kernel
theorem dX7_giveRim_87 : decode cX7_giveRim 87 = .ok (.iconst 0, 1) := by decide +kernel
theorem dX7_giveRim_88 : decode cX7_giveRim 88 = .ok (.istore 4, 2) := by decide +kernel
theorem dX7_giveRim_90 : decode cX7_giveRim 90 = .ok (.iload 4, 2) := by decide +kernel
theorem dX7_giveRim_92 : decode cX7_giveRim 92 = .ok (.bipush 6, 2) := by decide +kernel
theorem dX7_giveRim_94 : decode cX7_giveRim 94 = .ok (.if_icmp .ge 76, 3) := by decide +kernel
theorem dX7_giveRim_97 : decode cX7_giveRim 97 = .ok (.aload_n 0, 1) := by decide +kernel
theorem dX7_giveRim_98 : decode cX7_giveRim 98 = .ok (.aload_n 0, 1) := by decide +kernel
theorem dX7_giveRim_99 : decode cX7_giveRim 99 = .ok (.getfield 36, 3) := by decide +kernel
theorem dX7_giveRim_102 : decode cX7_giveRim 102 = .ok (.iconst 1, 1) := by decide +kernel
theorem dX7_giveRim_103 : decode cX7_giveRim 103 = .ok (.isub, 1) := by decide +kernel
theorem dX7_giveRim_104 : decode cX7_giveRim 104 = .ok (.iload 4, 2) := by decide +kernel
theorem dX7_giveRim_106 : decode cX7_giveRim 106 = .ok (.invokevirtual 39, 3) := by decide +kernel
theorem dX7_giveRim_109 : decode cX7_giveRim 109 = .ok (.iload_n 3, 1) := by decide +kernel
theorem dX7_giveRim_110 : decode cX7_giveRim 110 = .ok (.invokestatic 54, 3) := by decide +kernel
theorem dX7_giveRim_113 : decode cX7_giveRim 113 = .ok (.istore 5, 2) := by decide +kernel
theorem dX7_giveRim_115 : decode cX7_giveRim 115 = .ok (.aload_n 0, 1) := by decide +kernel
theorem dX7_giveRim_116 : decode cX7_giveRim 116 = .ok (.getfield 9, 3) := by decide +kernel
theorem dX7_giveRim_119 : decode cX7_giveRim 119 = .ok (.aload_n 0, 1) := by decide +kernel
theorem dX7_giveRim_120 : decode cX7_giveRim 120 = .ok (.getfield 36, 3) := by decide +kernel
theorem dX7_giveRim_123 : decode cX7_giveRim 123 = .ok (.iconst 1, 1) := by decide +kernel
theorem dX7_giveRim_124 : decode cX7_giveRim 124 = .ok (.isub, 1) := by decide +kernel
theorem dX7_giveRim_125 : decode cX7_giveRim 125 = .ok (.bipush 6, 2) := by decide +kernel
theorem dX7_giveRim_127 : decode cX7_giveRim 127 = .ok (.imul, 1) := by decide +kernel
theorem dX7_giveRim_128 : decode cX7_giveRim 128 = .ok (.iload 4, 2) := by decide +kernel
theorem dX7_giveRim_130 : decode cX7_giveRim 130 = .ok (.iadd, 1) := by decide +kernel
theorem dX7_giveRim_131 : decode cX7_giveRim 131 = .ok (.dup2, 1) := by decide +kernel
theorem dX7_giveRim_132 : decode cX7_giveRim 132 = .ok (.iaload, 1) := by decide +kernel
theorem dX7_giveRim_133 : decode cX7_giveRim 133 = .ok (.iload 5, 2) := by decide +kernel
theorem dX7_giveRim_135 : decode cX7_giveRim 135 = .ok (.isub, 1) := by decide +kernel
theorem dX7_giveRim_136 : decode cX7_giveRim 136 = .ok (.iastore, 1) := by decide +kernel
theorem dX7_giveRim_137 : decode cX7_giveRim 137 = .ok (.aload_n 1, 1) := by decide +kernel
theorem dX7_giveRim_138 : decode cX7_giveRim 138 = .ok (.getfield 9, 3) := by decide +kernel
theorem dX7_giveRim_141 : decode cX7_giveRim 141 = .ok (.aload_n 1, 1) := by decide +kernel
theorem dX7_giveRim_142 : decode cX7_giveRim 142 = .ok (.getfield 36, 3) := by decide +kernel
theorem dX7_giveRim_145 : decode cX7_giveRim 145 = .ok (.iconst 1, 1) := by decide +kernel
theorem dX7_giveRim_146 : decode cX7_giveRim 146 = .ok (.isub, 1) := by decide +kernel
theorem dX7_giveRim_147 : decode cX7_giveRim 147 = .ok (.bipush 6, 2) := by decide +kernel
theorem dX7_giveRim_149 : decode cX7_giveRim 149 = .ok (.imul, 1) := by decide +kernel
theorem dX7_giveRim_150 : decode cX7_giveRim 150 = .ok (.iload 4, 2) := by decide +kernel
theorem dX7_giveRim_152 : decode cX7_giveRim 152 = .ok (.iadd, 1) := by decide +kernel
theorem dX7_giveRim_153 : decode cX7_giveRim 153 = .ok (.dup2, 1) := by decide +kernel
theorem dX7_giveRim_154 : decode cX7_giveRim 154 = .ok (.iaload, 1) := by decide +kernel
theorem dX7_giveRim_155 : decode cX7_giveRim 155 = .ok (.iload 5, 2) := by decide +kernel
theorem dX7_giveRim_157 : decode cX7_giveRim 157 = .ok (.iadd, 1) := by decide +kernel
theorem dX7_giveRim_158 : decode cX7_giveRim 158 = .ok (.iastore, 1) := by decide +kernel
theorem dX7_giveRim_159 : decode cX7_giveRim 159 = .ok (.iload_n 3, 1) := by decide +kernel
theorem dX7_giveRim_160 : decode cX7_giveRim 160 = .ok (.iload 5, 2) := by decide +kernel
theorem dX7_giveRim_162 : decode cX7_giveRim 162 = .ok (.isub, 1) := by decide +kernel
theorem dX7_giveRim_163 : decode cX7_giveRim 163 = .ok (.istore_n 3, 1) := by decide +kernel
theorem dX7_giveRim_164 : decode cX7_giveRim 164 = .ok (.iinc 4 1, 3) := by decide +kernel
theorem dX7_giveRim_167 : decode cX7_giveRim 167 = .ok (.goto (-77), 3) := by decide +kernel
theorem dX7_giveRim_170 : decode cX7_giveRim 170 = .ok (.iconst 1, 1) := by decide +kernel
theorem dX7_giveRim_171 : decode cX7_giveRim 171 = .ok (.ireturn, 1) := by decide +kernel
theorem dX8_init_0 : decode cX8_init 0 = .ok (.aload_n 0, 1) := by decide +kernel
theorem dX8_init_1 : decode cX8_init 1 = .ok (.invokespecial 3, 3) := by decide +kernel
theorem dX8_init_4 : decode cX8_init 4 = .ok (.aload_n 0, 1) := by decide +kernel
theorem dX8_init_5 : decode cX8_init 5 = .ok (.sipush 400, 3) := by decide +kernel
theorem dX8_init_8 : decode cX8_init 8 = .ok (.newarray .int, 2) := by decide +kernel
theorem dX8_init_10 : decode cX8_init 10 = .ok (.putfield 9, 3) := by decide +kernel
theorem dX8_init_13 : decode cX8_init 13 = .ok (.return_, 1) := by decide +kernel
theorem dX8_append_0 : decode cX8_append 0 = .ok (.bipush 24, 2) := by decide +kernel
theorem dX8_append_2 : decode cX8_append 2 = .ok (.istore_n 2, 1) := by decide +kernel
theorem dX8_append_3 : decode cX8_append 3 = .ok (.iload_n 2, 1) := by decide +kernel
theorem dX8_append_4 : decode cX8_append 4 = .ok (.ifCond .lt 45, 3) := by decide +kernel
theorem dX8_append_7 : decode cX8_append 7 = .ok (.aload_n 0, 1) := by decide +kernel
theorem dX8_append_8 : decode cX8_append 8 = .ok (.getfield 15, 3) := by decide +kernel
theorem dX8_append_11 : decode cX8_append 11 = .ok (.sipush 400, 3) := by decide +kernel
theorem dX8_append_14 : decode cX8_append 14 = .ok (.if_icmp .ge 35, 3) := by decide +kernel
theorem dX8_append_17 : decode cX8_append 17 = .ok (.aload_n 0, 1) := by decide +kernel
theorem dX8_append_18 : decode cX8_append 18 = .ok (.getfield 9, 3) := by decide +kernel
theorem dX8_append_21 : decode cX8_append 21 = .ok (.aload_n 0, 1) := by decide +kernel
theorem dX8_append_22 : decode cX8_append 22 = .ok (.getfield 15, 3) := by decide +kernel
theorem dX8_append_25 : decode cX8_append 25 = .ok (.iload_n 1, 1) := by decide +kernel
theorem dX8_append_26 : decode cX8_append 26 = .ok (.iload_n 2, 1) := by decide +kernel
theorem dX8_append_27 : decode cX8_append 27 = .ok (.iushr, 1) := by decide +kernel
theorem dX8_append_28 : decode cX8_append 28 = .ok (.sipush 255, 3) := by decide +kernel
theorem dX8_append_31 : decode cX8_append 31 = .ok (.iand, 1) := by decide +kernel
theorem dX8_append_32 : decode cX8_append 32 = .ok (.iastore, 1) := by decide +kernel
theorem dX8_append_33 : decode cX8_append 33 = .ok (.aload_n 0, 1) := by decide +kernel
theorem dX8_append_34 : decode cX8_append 34 = .ok (.dup, 1) := by decide +kernel
theorem dX8_append_35 : decode cX8_append 35 = .ok (.getfield 15, 3) := by decide +kernel
theorem dX8_append_38 : decode cX8_append 38 = .ok (.iconst 1, 1) := by decide +kernel
theorem dX8_append_39 : decode cX8_append 39 = .ok (.iadd, 1) := by decide +kernel
theorem dX8_append_40 : decode cX8_append 40 = .ok (.putfield 15, 3) := by decide +kernel
theorem dX8_append_43 : decode cX8_append 43 = .ok (.iinc 2 (-8), 3) := by decide +kernel
theorem dX8_append_46 : decode cX8_append 46 = .ok (.goto (-43), 3) := by decide +kernel
theorem dX8_append_49 : decode cX8_append 49 = .ok (.return_, 1) := by decide +kernel
theorem dX9_init_0 : decode cX9_init 0 = .ok (.aload_n 0, 1) := by decide +kernel
theorem dX9_init_1 : decode cX9_init 1 = .ok (.invokespecial 3, 3) := by decide +kernel
theorem dX9_init_4 : decode cX9_init 4 = .ok (.aload_n 0, 1) := by decide +kernel
theorem dX9_init_5 : decode cX9_init 5 = .ok (.bipush 7, 2) := by decide +kernel
theorem dX9_init_7 : decode cX9_init 7 = .ok (.newarray .int, 2) := by decide +kernel
theorem dX9_init_9 : decode cX9_init 9 = .ok (.putfield 9, 3) := by decide +kernel
theorem dX9_init_12 : decode cX9_init 12 = .ok (.return_, 1) := by decide +kernel
theorem dX9_listen_0 : decode cX9_listen 0 = .ok (.aload_n 0, 1) := by decide +kernel
theorem dX9_listen_1 : decode cX9_listen 1 = .ok (.aload_n 1, 1) := by decide +kernel
theorem dX9_listen_2 : decode cX9_listen 2 = .ok (.getfield 15, 3) := by decide +kernel
theorem dX9_listen_5 : decode cX9_listen 5 = .ok (.bipush 7, 2) := by decide +kernel
theorem dX9_listen_7 : decode cX9_listen 7 = .ok (.if_icmp .gt 10, 3) := by decide +kernel
theorem dX9_listen_10 : decode cX9_listen 10 = .ok (.aload_n 1, 1) := by decide +kernel
theorem dX9_listen_11 : decode cX9_listen 11 = .ok (.getfield 15, 3) := by decide +kernel
theorem dX9_listen_14 : decode cX9_listen 14 = .ok (.goto 4, 3) := by decide +kernel
theorem dX9_listen_17 : decode cX9_listen 17 = .ok (.iconst 0, 1) := by decide +kernel
theorem dX9_listen_18 : decode cX9_listen 18 = .ok (.putfield 21, 3) := by decide +kernel
theorem dX9_listen_21 : decode cX9_listen 21 = .ok (.iconst 0, 1) := by decide +kernel
theorem dX9_listen_22 : decode cX9_listen 22 = .ok (.istore_n 2, 1) := by decide +kernel
theorem dX9_listen_23 : decode cX9_listen 23 = .ok (.iload_n 2, 1) := by decide +kernel
theorem dX9_listen_24 : decode cX9_listen 24 = .ok (.aload_n 0, 1) := by decide +kernel
theorem dX9_listen_25 : decode cX9_listen 25 = .ok (.getfield 21, 3) := by decide +kernel
theorem dX9_listen_28 : decode cX9_listen 28 = .ok (.if_icmp .ge 24, 3) := by decide +kernel
theorem dX9_listen_31 : decode cX9_listen 31 = .ok (.aload_n 0, 1) := by decide +kernel
theorem dX9_listen_32 : decode cX9_listen 32 = .ok (.getfield 9, 3) := by decide +kernel
theorem dX9_listen_35 : decode cX9_listen 35 = .ok (.iload_n 2, 1) := by decide +kernel
theorem dX9_listen_36 : decode cX9_listen 36 = .ok (.aload_n 1, 1) := by decide +kernel
theorem dX9_listen_37 : decode cX9_listen 37 = .ok (.getfield 24, 3) := by decide +kernel
theorem dX9_listen_40 : decode cX9_listen 40 = .ok (.iload_n 2, 1) := by decide +kernel
theorem dX9_listen_41 : decode cX9_listen 41 = .ok (.iaload, 1) := by decide +kernel
theorem dX9_listen_42 : decode cX9_listen 42 = .ok (.bipush 10, 2) := by decide +kernel
theorem dX9_listen_44 : decode cX9_listen 44 = .ok (.idiv, 1) := by decide +kernel
theorem dX9_listen_45 : decode cX9_listen 45 = .ok (.iastore, 1) := by decide +kernel
theorem dX9_listen_46 : decode cX9_listen 46 = .ok (.iinc 2 1, 3) := by decide +kernel
theorem dX9_listen_49 : decode cX9_listen 49 = .ok (.goto (-26), 3) := by decide +kernel
theorem dX9_listen_52 : decode cX9_listen 52 = .ok (.aload_n 0, 1) := by decide +kernel
theorem dX9_listen_53 : decode cX9_listen 53 = .ok (.getfield 21, 3) := by decide +kernel
theorem dX9_listen_56 : decode cX9_listen 56 = .ok (.ifCond .le 7, 3) := by decide +kernel
theorem dX9_listen_59 : decode cX9_listen 59 = .ok (.iconst 1, 1) := by decide +kernel
theorem dX9_listen_60 : decode cX9_listen 60 = .ok (.goto 4, 3) := by decide +kernel
theorem dX9_listen_63 : decode cX9_listen 63 = .ok (.iconst 0, 1) := by decide +kernel
theorem dX9_listen_64 : decode cX9_listen 64 = .ok (.ireturn, 1) := by decide +kernel
theorem dX9_countBelow_0 : decode cX9_countBelow 0 = .ok (.iconst 0, 1) := by decide +kernel
theorem dX9_countBelow_1 : decode cX9_countBelow 1 = .ok (.istore_n 2, 1) := by decide +kernel
theorem dX9_countBelow_2 : decode cX9_countBelow 2 = .ok (.lconst 0, 1) := by decide +kernel
theorem dX9_countBelow_3 : decode cX9_countBelow 3 = .ok (.lstore_n 3, 1) := by decide +kernel
theorem dX9_countBelow_4 : decode cX9_countBelow 4 = .ok (.lconst 1, 1) := by decide +kernel
theorem dX9_countBelow_5 : decode cX9_countBelow 5 = .ok (.lstore 5, 2) := by decide +kernel
theorem dX9_countBelow_7 : decode cX9_countBelow 7 = .ok (.iconst 0, 1) := by decide +kernel
theorem dX9_countBelow_8 : decode cX9_countBelow 8 = .ok (.istore 7, 2) := by decide +kernel
theorem dX9_countBelow_10 : decode cX9_countBelow 10 = .ok (.iconst 0, 1) := by decide +kernel
theorem dX9_countBelow_11 : decode cX9_countBelow 11 = .ok (.istore 8, 2) := by decide +kernel
theorem dX9_countBelow_13 : decode cX9_countBelow 13 = .ok (.iload 8, 2) := by decide +kernel
theorem dX9_countBelow_15 : decode cX9_countBelow 15 = .ok (.aload_n 0, 1) := by decide +kernel
theorem dX9_countBelow_16 : decode cX9_countBelow 16 = .ok (.getfield 21, 3) := by decide +kernel
theorem dX9_countBelow_19 : decode cX9_countBelow 19 = .ok (.if_icmp .ge 132, 3) := by decide +kernel
theorem dX9_countBelow_22 : decode cX9_countBelow 22 = .ok (.iload 8, 2) := by decide +kernel
theorem dX9_countBelow_24 : decode cX9_countBelow 24 = .ok (.iconst 1, 1) := by decide +kernel
theorem dX9_countBelow_25 : decode cX9_countBelow 25 = .ok (.iadd, 1) := by decide +kernel
theorem dX9_countBelow_26 : decode cX9_countBelow 26 = .ok (.aload_n 0, 1) := by decide +kernel
theorem dX9_countBelow_27 : decode cX9_countBelow 27 = .ok (.getfield 21, 3) := by decide +kernel
theorem dX9_countBelow_30 : decode cX9_countBelow 30 = .ok (.if_icmp .ge 16, 3) := by decide +kernel
theorem dX9_countBelow_33 : decode cX9_countBelow 33 = .ok (.aload_n 0, 1) := by decide +kernel
theorem dX9_countBelow_34 : decode cX9_countBelow 34 = .ok (.getfield 9, 3) := by decide +kernel
theorem dX9_countBelow_37 : decode cX9_countBelow 37 = .ok (.iload 8, 2) := by decide +kernel
theorem dX9_countBelow_39 : decode cX9_countBelow 39 = .ok (.iconst 1, 1) := by decide +kernel
theorem dX9_countBelow_40 : decode cX9_countBelow 40 = .ok (.iadd, 1) := by decide +kernel
theorem dX9_countBelow_41 : decode cX9_countBelow 41 = .ok (.iaload, 1) := by decide +kernel
theorem dX9_countBelow_42 : decode cX9_countBelow 42 = .ok (.i2l, 1) := by decide +kernel
theorem dX9_countBelow_43 : decode cX9_countBelow 43 = .ok (.goto 4, 3) := by decide +kernel
theorem dX9_countBelow_46 : decode cX9_countBelow 46 = .ok (.lconst 0, 1) := by decide +kernel
theorem dX9_countBelow_47 : decode cX9_countBelow 47 = .ok (.lstore 9, 2) := by decide +kernel
theorem dX9_countBelow_49 : decode cX9_countBelow 49 = .ok (.aload_n 0, 1) := by decide +kernel
theorem dX9_countBelow_50 : decode cX9_countBelow 50 = .ok (.getfield 9, 3) := by decide +kernel
theorem dX9_countBelow_53 : decode cX9_countBelow 53 = .ok (.iload 8, 2) := by decide +kernel
theorem dX9_countBelow_55 : decode cX9_countBelow 55 = .ok (.iaload, 1) := by decide +kernel
theorem dX9_countBelow_56 : decode cX9_countBelow 56 = .ok (.i2l, 1) := by decide +kernel
theorem dX9_countBelow_57 : decode cX9_countBelow 57 = .ok (.lstore 11, 2) := by decide +kernel
theorem dX9_countBelow_59 : decode cX9_countBelow 59 = .ok (.lload 11, 2) := by decide +kernel
theorem dX9_countBelow_61 : decode cX9_countBelow 61 = .ok (.lconst 0, 1) := by decide +kernel
theorem dX9_countBelow_62 : decode cX9_countBelow 62 = .ok (.lcmp, 1) := by decide +kernel
theorem dX9_countBelow_63 : decode cX9_countBelow 63 = .ok (.ifCond .ne 9, 3) := by decide +kernel
theorem dX9_countBelow_66 : decode cX9_countBelow 66 = .ok (.lconst 1, 1) := by decide +kernel
theorem dX9_countBelow_67 : decode cX9_countBelow 67 = .ok (.lstore 5, 2) := by decide +kernel
theorem dX9_countBelow_69 : decode cX9_countBelow 69 = .ok (.iconst 0, 1) := by decide +kernel
theorem dX9_countBelow_70 : decode cX9_countBelow 70 = .ok (.istore 7, 2) := by decide +kernel
theorem dX9_countBelow_72 : decode cX9_countBelow 72 = .ok (.aload_n 0, 1) := by decide +kernel
theorem dX9_countBelow_73 : decode cX9_countBelow 73 = .ok (.getfield 9, 3) := by decide +kernel
theorem dX9_countBelow_76 : decode cX9_countBelow 76 = .ok (.iload 8, 2) := by decide +kernel
theorem dX9_countBelow_78 : decode cX9_countBelow 78 = .ok (.iaload, 1) := by decide +kernel
theorem dX9_countBelow_79 : decode cX9_countBelow 79 = .ok (.i2l, 1) := by decide +kernel
theorem dX9_countBelow_80 : decode cX9_countBelow 80 = .ok (.lload 9, 2) := by decide +kernel
theorem dX9_countBelow_82 : decode cX9_countBelow 82 = .ok (.ladd, 1) := by decide +kernel
theorem dX9_countBelow_83 : decode cX9_countBelow 83 = .ok (.iload_n 1, 1) := by decide +kernel
theorem dX9_countBelow_84 : decode cX9_countBelow 84 = .ok (.i2l, 1) := by decide +kernel
theorem dX9_countBelow_85 : decode cX9_countBelow 85 = .ok (.lsub, 1) := by decide +kernel
theorem dX9_countBelow_86 : decode cX9_countBelow 86 = .ok (.lload 5, 2) := by decide +kernel
theorem dX9_countBelow_88 : decode cX9_countBelow 88 = .ok (.lmul, 1) := by decide +kernel
theorem dX9_countBelow_89 : decode cX9_countBelow 89 = .ok (.lload 11, 2) := by decide +kernel
theorem dX9_countBelow_91 : decode cX9_countBelow 91 = .ok (.lload 11, 2) := by decide +kernel
theorem dX9_countBelow_93 : decode cX9_countBelow 93 = .ok (.lmul, 1) := by decide +kernel
theorem dX9_countBelow_94 : decode cX9_countBelow 94 = .ok (.lload_n 3, 1) := by decide +kernel
theorem dX9_countBelow_95 : decode cX9_countBelow 95 = .ok (.lmul, 1) := by decide +kernel
theorem dX9_countBelow_96 : decode cX9_countBelow 96 = .ok (.lsub, 1) := by decide +kernel
theorem dX9_countBelow_97 : decode cX9_countBelow 97 = .ok (.lstore 13, 2) := by decide +kernel
theorem dX9_countBelow_99 : decode cX9_countBelow 99 = .ok (.lload 13, 2) := by decide +kernel
theorem dX9_countBelow_101 : decode cX9_countBelow 101 = .ok (.lconst 0, 1) := by decide +kernel
theorem dX9_countBelow_102 : decode cX9_countBelow 102 = .ok (.lcmp, 1) := by decide +kernel
theorem dX9_countBelow_103 : decode cX9_countBelow 103 = .ok (.ifCond .eq 35, 3) := by decide +kernel
theorem dX9_countBelow_106 : decode cX9_countBelow 106 = .ok (.lload 13, 2) := by decide +kernel
theorem dX9_countBelow_108 : decode cX9_countBelow 108 = .ok (.lconst 0, 1) := by decide +kernel
theorem dX9_countBelow_109 : decode cX9_countBelow 109 = .ok (.lcmp, 1) := by decide +kernel
theorem dX9_countBelow_110 : decode cX9_countBelow 110 = .ok (.ifCond .ge 7, 3) := by decide +kernel
theorem dX9_countBelow_113 : decode cX9_countBelow 113 = .ok (.iconst 1, 1) := by decide +kernel
theorem dX9_countBelow_114 : decode cX9_countBelow 114 = .ok (.goto 4, 3) := by decide +kernel
theorem dX9_countBelow_117 : decode cX9_countBelow 117 = .ok (.iconst 0, 1) := by decide +kernel
theorem dX9_countBelow_118 : decode cX9_countBelow 118 = .ok (.iload 7, 2) := by decide +kernel
theorem dX9_countBelow_120 : decode cX9_countBelow 120 = .ok (.if_icmp .eq 18, 3) := by decide +kernel
theorem dX9_countBelow_123 : decode cX9_countBelow 123 = .ok (.iinc 2 1, 3) := by decide +kernel
theorem dX9_countBelow_126 : decode cX9_countBelow 126 = .ok (.iload 7, 2) := by decide +kernel
theorem dX9_countBelow_128 : decode cX9_countBelow 128 = .ok (.ifCond .ne 7, 3) := by decide +kernel
theorem dX9_countBelow_131 : decode cX9_countBelow 131 = .ok (.iconst 1, 1) := by decide +kernel
theorem dX9_countBelow_132 : decode cX9_countBelow 132 = .ok (.goto 4, 3) := by decide +kernel
theorem dX9_countBelow_135 : decode cX9_countBelow 135 = .ok (.iconst 0, 1) := by decide +kernel
theorem dX9_countBelow_136 : decode cX9_countBelow 136 = .ok (.istore 7, 2) := by decide +kernel
theorem dX9_countBelow_138 : decode cX9_countBelow 138 = .ok (.lload 5, 2) := by decide +kernel
theorem dX9_countBelow_140 : decode cX9_countBelow 140 = .ok (.lstore_n 3, 1) := by decide +kernel
theorem dX9_countBelow_141 : decode cX9_countBelow 141 = .ok (.lload 13, 2) := by decide +kernel
theorem dX9_countBelow_143 : decode cX9_countBelow 143 = .ok (.lstore 5, 2) := by decide +kernel
theorem dX9_countBelow_145 : decode cX9_countBelow 145 = .ok (.iinc 8 1, 3) := by decide +kernel
theorem dX9_countBelow_148 : decode cX9_countBelow 148 = .ok (.goto (-135), 3) := by decide +kernel
theorem dX9_countBelow_151 : decode cX9_countBelow 151 = .ok (.iload_n 2, 1) := by decide +kernel
theorem dX9_countBelow_152 : decode cX9_countBelow 152 = .ok (.ireturn, 1) := by decide +kernel
theorem dX9_boxOf_0 : decode cX9_boxOf 0 = .ok (.iload_n 1, 1) := by decide +kernel
theorem dX9_boxOf_1 : decode cX9_boxOf 1 = .ok (.ifCond .lt 11, 3) := by decide +kernel
theorem dX9_boxOf_4 : decode cX9_boxOf 4 = .ok (.iload_n 1, 1) := by decide +kernel
theorem dX9_boxOf_5 : decode cX9_boxOf 5 = .ok (.aload_n 0, 1) := by decide +kernel
theorem dX9_boxOf_6 : decode cX9_boxOf 6 = .ok (.getfield 21, 3) := by decide +kernel
theorem dX9_boxOf_9 : decode cX9_boxOf 9 = .ok (.if_icmp .lt 5, 3) := by decide +kernel
theorem dX9_boxOf_12 : decode cX9_boxOf 12 = .ok (.iconst (-1), 1) := by decide +kernel
theorem dX9_boxOf_13 : decode cX9_boxOf 13 = .ok (.ireturn, 1) := by decide +kernel
theorem dX9_boxOf_14 : decode cX9_boxOf 14 = .ok (.iconst 0, 1) := by decide +kernel
theorem dX9_boxOf_15 : decode cX9_boxOf 15 = .ok (.istore_n 2, 1) := by decide +kernel
theorem dX9_boxOf_16 : decode cX9_boxOf 16 = .ok (.sipush 256, 3) := by decide +kernel
theorem dX9_boxOf_19 : decode cX9_boxOf 19 = .ok (.istore_n 3, 1) := by decide +kernel
theorem dX9_boxOf_20 : decode cX9_boxOf 20 = .ok (.iload_n 3, 1) := by decide +kernel
theorem dX9_boxOf_21 : decode cX9_boxOf 21 = .ok (.ifCond .le 34, 3) := by decide +kernel
theorem dX9_boxOf_24 : decode cX9_boxOf 24 = .ok (.iload_n 2, 1) := by decide +kernel
theorem dX9_boxOf_25 : decode cX9_boxOf 25 = .ok (.iload_n 3, 1) := by decide +kernel
theorem dX9_boxOf_26 : decode cX9_boxOf 26 = .ok (.iadd, 1) := by decide +kernel
theorem dX9_boxOf_27 : decode cX9_boxOf 27 = .ok (.sipush 400, 3) := by decide +kernel
theorem dX9_boxOf_30 : decode cX9_boxOf 30 = .ok (.if_icmp .gt 18, 3) := by decide +kernel
theorem dX9_boxOf_33 : decode cX9_boxOf 33 = .ok (.aload_n 0, 1) := by decide +kernel
theorem dX9_boxOf_34 : decode cX9_boxOf 34 = .ok (.iload_n 2, 1) := by decide +kernel
theorem dX9_boxOf_35 : decode cX9_boxOf 35 = .ok (.iload_n 3, 1) := by decide +kernel
theorem dX9_boxOf_36 : decode cX9_boxOf 36 = .ok (.iadd, 1) := by decide +kernel
theorem dX9_boxOf_37 : decode cX9_boxOf 37 = .ok (.invokevirtual 27, 3) := by decide +kernel
theorem dX9_boxOf_40 : decode cX9_boxOf 40 = .ok (.iload_n 1, 1) := by decide +kernel
theorem dX9_boxOf_41 : decode cX9_boxOf 41 = .ok (.if_icmp .gt 7, 3) := by decide +kernel
theorem dX9_boxOf_44 : decode cX9_boxOf 44 = .ok (.iload_n 2, 1) := by decide +kernel
theorem dX9_boxOf_45 : decode cX9_boxOf 45 = .ok (.iload_n 3, 1) := by decide +kernel
theorem dX9_boxOf_46 : decode cX9_boxOf 46 = .ok (.iadd, 1) := by decide +kernel
theorem dX9_boxOf_47 : decode cX9_boxOf 47 = .ok (.istore_n 2, 1) := by decide +kernel
theorem dX9_boxOf_48 : decode cX9_boxOf 48 = .ok (.iload_n 3, 1) := by decide +kernel
theorem dX9_boxOf_49 : decode cX9_boxOf 49 = .ok (.iconst 2, 1) := by decide +kernel
theorem dX9_boxOf_50 : decode cX9_boxOf 50 = .ok (.idiv, 1) := by decide +kernel
theorem dX9_boxOf_51 : decode cX9_boxOf 51 = .ok (.istore_n 3, 1) := by decide +kernel
theorem dX9_boxOf_52 : decode cX9_boxOf 52 = .ok (.goto (-32), 3) := by decide +kernel
theorem dX9_boxOf_55 : decode cX9_boxOf 55 = .ok (.iload_n 2, 1) := by decide +kernel
theorem dX9_boxOf_56 : decode cX9_boxOf 56 = .ok (.ireturn, 1) := by decide +kernel
theorem dX10_init_0 : decode cX10_init 0 = .ok (.aload_n 0, 1) := by decide +kernel
theorem dX10_init_1 : decode cX10_init 1 = .ok (.invokespecial 3, 3) := by decide +kernel
theorem dX10_init_4 : decode cX10_init 4 = .ok (.aload_n 0, 1) := by decide +kernel
theorem dX10_init_5 : decode cX10_init 5 = .ok (.iconst 2, 1) := by decide +kernel
theorem dX10_init_6 : decode cX10_init 6 = .ok (.anewarray 9, 3) := by decide +kernel
theorem dX10_init_9 : decode cX10_init 9 = .ok (.putfield 11, 3) := by decide +kernel
theorem dX10_init_12 : decode cX10_init 12 = .ok (.iconst 0, 1) := by decide +kernel
theorem dX10_init_13 : decode cX10_init 13 = .ok (.istore_n 1, 1) := by decide +kernel
theorem dX10_init_14 : decode cX10_init 14 = .ok (.iload_n 1, 1) := by decide +kernel
theorem dX10_init_15 : decode cX10_init 15 = .ok (.iconst 2, 1) := by decide +kernel
theorem dX10_init_16 : decode cX10_init 16 = .ok (.if_icmp .ge 22, 3) := by decide +kernel
theorem dX10_init_19 : decode cX10_init 19 = .ok (.aload_n 0, 1) := by decide +kernel
theorem dX10_init_20 : decode cX10_init 20 = .ok (.getfield 11, 3) := by decide +kernel
theorem dX10_init_23 : decode cX10_init 23 = .ok (.iload_n 1, 1) := by decide +kernel
theorem dX10_init_24 : decode cX10_init 24 = .ok (.new 9, 3) := by decide +kernel
theorem dX10_init_27 : decode cX10_init 27 = .ok (.dup, 1) := by decide +kernel
theorem dX10_init_28 : decode cX10_init 28 = .ok (.invokespecial 17, 3) := by decide +kernel
theorem dX10_init_31 : decode cX10_init 31 = .ok (.aastore, 1) := by decide +kernel
theorem dX10_init_32 : decode cX10_init 32 = .ok (.iinc 1 1, 3) := by decide +kernel
theorem dX10_init_35 : decode cX10_init 35 = .ok (.goto (-21), 3) := by decide +kernel
theorem dX10_init_38 : decode cX10_init 38 = .ok (.return_, 1) := by decide +kernel
theorem dX10_copyFrom_0 : decode cX10_copyFrom 0 = .ok (.iconst 0, 1) := by decide +kernel
theorem dX10_copyFrom_1 : decode cX10_copyFrom 1 = .ok (.istore_n 2, 1) := by decide +kernel
theorem dX10_copyFrom_2 : decode cX10_copyFrom 2 = .ok (.iload_n 2, 1) := by decide +kernel
theorem dX10_copyFrom_3 : decode cX10_copyFrom 3 = .ok (.iconst 2, 1) := by decide +kernel
theorem dX10_copyFrom_4 : decode cX10_copyFrom 4 = .ok (.if_icmp .ge 24, 3) := by decide +kernel
theorem dX10_copyFrom_7 : decode cX10_copyFrom 7 = .ok (.aload_n 0, 1) := by decide +kernel
theorem dX10_copyFrom_8 : decode cX10_copyFrom 8 = .ok (.getfield 11, 3) := by decide +kernel
theorem dX10_copyFrom_11 : decode cX10_copyFrom 11 = .ok (.iload_n 2, 1) := by decide +kernel
theorem dX10_copyFrom_12 : decode cX10_copyFrom 12 = .ok (.aaload, 1) := by decide +kernel
theorem dX10_copyFrom_13 : decode cX10_copyFrom 13 = .ok (.aload_n 1, 1) := by decide +kernel
theorem dX10_copyFrom_14 : decode cX10_copyFrom 14 = .ok (.getfield 11, 3) := by decide +kernel
theorem dX10_copyFrom_17 : decode cX10_copyFrom 17 = .ok (.iload_n 2, 1) := by decide +kernel
theorem dX10_copyFrom_18 : decode cX10_copyFrom 18 = .ok (.aaload, 1) := by decide +kernel
theorem dX10_copyFrom_19 : decode cX10_copyFrom 19 = .ok (.invokevirtual 18, 3) := by decide +kernel
theorem dX10_copyFrom_22 : decode cX10_copyFrom 22 = .ok (.iinc 2 1, 3) := by decide +kernel
theorem dX10_copyFrom_25 : decode cX10_copyFrom 25 = .ok (.goto (-23), 3) := by decide +kernel
theorem dX10_copyFrom_28 : decode cX10_copyFrom 28 = .ok (.aload_n 0, 1) := by decide +kernel
theorem dX10_copyFrom_29 : decode cX10_copyFrom 29 = .ok (.aload_n 1, 1) := by decide +kernel
theorem dX10_copyFrom_30 : decode cX10_copyFrom 30 = .ok (.getfield 22, 3) := by decide +kernel
theorem dX10_copyFrom_33 : decode cX10_copyFrom 33 = .ok (.putfield 22, 3) := by decide +kernel
theorem dX10_copyFrom_36 : decode cX10_copyFrom 36 = .ok (.aload_n 0, 1) := by decide +kernel
theorem dX10_copyFrom_37 : decode cX10_copyFrom 37 = .ok (.aload_n 1, 1) := by decide +kernel
theorem dX10_copyFrom_38 : decode cX10_copyFrom 38 = .ok (.getfield 26, 3) := by decide +kernel
theorem dX10_copyFrom_41 : decode cX10_copyFrom 41 = .ok (.putfield 26, 3) := by decide +kernel
theorem dX10_copyFrom_44 : decode cX10_copyFrom 44 = .ok (.aload_n 0, 1) := by decide +kernel
theorem dX10_copyFrom_45 : decode cX10_copyFrom 45 = .ok (.aload_n 1, 1) := by decide +kernel
theorem dX10_copyFrom_46 : decode cX10_copyFrom 46 = .ok (.getfield 29, 3) := by decide +kernel
theorem dX10_copyFrom_49 : decode cX10_copyFrom 49 = .ok (.putfield 29, 3) := by decide +kernel
theorem dX10_copyFrom_52 : decode cX10_copyFrom 52 = .ok (.aload_n 0, 1) := by decide +kernel
theorem dX10_copyFrom_53 : decode cX10_copyFrom 53 = .ok (.aload_n 1, 1) := by decide +kernel
theorem dX10_copyFrom_54 : decode cX10_copyFrom 54 = .ok (.getfield 32, 3) := by decide +kernel
theorem dX10_copyFrom_57 : decode cX10_copyFrom 57 = .ok (.putfield 32, 3) := by decide +kernel
theorem dX10_copyFrom_60 : decode cX10_copyFrom 60 = .ok (.aload_n 0, 1) := by decide +kernel
theorem dX10_copyFrom_61 : decode cX10_copyFrom 61 = .ok (.aload_n 1, 1) := by decide +kernel
theorem dX10_copyFrom_62 : decode cX10_copyFrom 62 = .ok (.getfield 35, 3) := by decide +kernel
theorem dX10_copyFrom_65 : decode cX10_copyFrom 65 = .ok (.putfield 35, 3) := by decide +kernel
theorem dX10_copyFrom_68 : decode cX10_copyFrom 68 = .ok (.return_, 1) := by decide +kernel
theorem dX11_init_0 : decode cX11_init 0 = .ok (.aload_n 0, 1) := by decide +kernel
theorem dX11_init_1 : decode cX11_init 1 = .ok (.invokespecial 3, 3) := by decide +kernel
theorem dX11_init_4 : decode cX11_init 4 = .ok (.aload_n 0, 1) := by decide +kernel
theorem dX11_init_5 : decode cX11_init 5 = .ok (.new 9, 3) := by decide +kernel
theorem dX11_init_8 : decode cX11_init 8 = .ok (.dup, 1) := by decide +kernel
theorem dX11_init_9 : decode cX11_init 9 = .ok (.invokespecial 11, 3) := by decide +kernel
theorem dX11_init_12 : decode cX11_init 12 = .ok (.putfield 12, 3) := by decide +kernel
theorem dX11_init_15 : decode cX11_init 15 = .ok (.aload_n 0, 1) := by decide +kernel
theorem dX11_init_16 : decode cX11_init 16 = .ok (.new 16, 3) := by decide +kernel
theorem dX11_init_19 : decode cX11_init 19 = .ok (.dup, 1) := by decide +kernel
theorem dX11_init_20 : decode cX11_init 20 = .ok (.aload_n 0, 1) := by decide +kernel
theorem dX11_init_21 : decode cX11_init 21 = .ok (.getfield 12, 3) := by decide +kernel
theorem dX11_init_24 : decode cX11_init 24 = .ok (.invokespecial 18, 3) := by decide +kernel
theorem dX11_init_27 : decode cX11_init 27 = .ok (.putfield 21, 3) := by decide +kernel
theorem dX11_init_30 : decode cX11_init 30 = .ok (.aload_n 0, 1) := by decide +kernel
theorem dX11_init_31 : decode cX11_init 31 = .ok (.bipush 31, 2) := by decide +kernel
theorem dX11_init_33 : decode cX11_init 33 = .ok (.anewarray 25, 3) := by decide +kernel
theorem dX11_init_36 : decode cX11_init 36 = .ok (.putfield 27, 3) := by decide +kernel
theorem dX11_init_39 : decode cX11_init 39 = .ok (.iconst 0, 1) := by decide +kernel
theorem dX11_init_40 : decode cX11_init 40 = .ok (.istore_n 1, 1) := by decide +kernel
theorem dX11_init_41 : decode cX11_init 41 = .ok (.iload_n 1, 1) := by decide +kernel
theorem dX11_init_42 : decode cX11_init 42 = .ok (.bipush 30, 2) := by decide +kernel
theorem dX11_init_44 : decode cX11_init 44 = .ok (.if_icmp .gt 22, 3) := by decide +kernel
theorem dX11_init_47 : decode cX11_init 47 = .ok (.aload_n 0, 1) := by decide +kernel
theorem dX11_init_48 : decode cX11_init 48 = .ok (.getfield 27, 3) := by decide +kernel
theorem dX11_init_51 : decode cX11_init 51 = .ok (.iload_n 1, 1) := by decide +kernel
theorem dX11_init_52 : decode cX11_init 52 = .ok (.new 25, 3) := by decide +kernel
theorem dX11_init_55 : decode cX11_init 55 = .ok (.dup, 1) := by decide +kernel
theorem dX11_init_56 : decode cX11_init 56 = .ok (.invokespecial 31, 3) := by decide +kernel
theorem dX11_init_59 : decode cX11_init 59 = .ok (.aastore, 1) := by decide +kernel
theorem dX11_init_60 : decode cX11_init 60 = .ok (.iinc 1 1, 3) := by decide +kernel
theorem dX11_init_63 : decode cX11_init 63 = .ok (.goto (-22), 3) := by decide +kernel
theorem dX11_init_66 : decode cX11_init 66 = .ok (.aload_n 0, 1) := by decide +kernel
theorem dX11_init_67 : decode cX11_init 67 = .ok (.new 32, 3) := by decide +kernel
theorem dX11_init_70 : decode cX11_init 70 = .ok (.dup, 1) := by decide +kernel
theorem dX11_init_71 : decode cX11_init 71 = .ok (.invokespecial 34, 3) := by decide +kernel
theorem dX11_init_74 : decode cX11_init 74 = .ok (.putfield 35, 3) := by decide +kernel
theorem dX11_init_77 : decode cX11_init 77 = .ok (.aload_n 0, 1) := by decide +kernel
theorem dX11_init_78 : decode cX11_init 78 = .ok (.new 32, 3) := by decide +kernel
theorem dX11_init_81 : decode cX11_init 81 = .ok (.dup, 1) := by decide +kernel
theorem dX11_init_82 : decode cX11_init 82 = .ok (.invokespecial 34, 3) := by decide +kernel
theorem dX11_init_85 : decode cX11_init 85 = .ok (.putfield 39, 3) := by decide +kernel
theorem dX11_init_88 : decode cX11_init 88 = .ok (.aload_n 0, 1) := by decide +kernel
theorem dX11_init_89 : decode cX11_init 89 = .ok (.new 42, 3) := by decide +kernel
theorem dX11_init_92 : decode cX11_init 92 = .ok (.dup, 1) := by decide +kernel
theorem dX11_init_93 : decode cX11_init 93 = .ok (.invokespecial 44, 3) := by decide +kernel
theorem dX11_init_96 : decode cX11_init 96 = .ok (.putfield 45, 3) := by decide +kernel
theorem dX11_init_99 : decode cX11_init 99 = .ok (.aload_n 0, 1) := by decide +kernel
theorem dX11_init_100 : decode cX11_init 100 = .ok (.new 49, 3) := by decide +kernel
theorem dX11_init_103 : decode cX11_init 103 = .ok (.dup, 1) := by decide +kernel
theorem dX11_init_104 : decode cX11_init 104 = .ok (.invokespecial 51, 3) := by decide +kernel
theorem dX11_init_107 : decode cX11_init 107 = .ok (.putfield 52, 3) := by decide +kernel
theorem dX11_init_110 : decode cX11_init 110 = .ok (.aload_n 0, 1) := by decide +kernel
theorem dX11_init_111 : decode cX11_init 111 = .ok (.new 56, 3) := by decide +kernel
theorem dX11_init_114 : decode cX11_init 114 = .ok (.dup, 1) := by decide +kernel
theorem dX11_init_115 : decode cX11_init 115 = .ok (.invokespecial 58, 3) := by decide +kernel
theorem dX11_init_118 : decode cX11_init 118 = .ok (.putfield 59, 3) := by decide +kernel
theorem dX11_init_121 : decode cX11_init 121 = .ok (.aload_n 0, 1) := by decide +kernel
theorem dX11_init_122 : decode cX11_init 122 = .ok (.new 63, 3) := by decide +kernel
theorem dX11_init_125 : decode cX11_init 125 = .ok (.dup, 1) := by decide +kernel
theorem dX11_init_126 : decode cX11_init 126 = .ok (.invokespecial 65, 3) := by decide +kernel
theorem dX11_init_129 : decode cX11_init 129 = .ok (.putfield 66, 3) := by decide +kernel
theorem dX11_init_132 : decode cX11_init 132 = .ok (.aload_n 0, 1) := by decide +kernel
theorem dX11_init_133 : decode cX11_init 133 = .ok (.new 70, 3) := by decide +kernel
theorem dX11_init_136 : decode cX11_init 136 = .ok (.dup, 1) := by decide +kernel
theorem dX11_init_137 : decode cX11_init 137 = .ok (.invokespecial 72, 3) := by decide +kernel
theorem dX11_init_140 : decode cX11_init 140 = .ok (.putfield 73, 3) := by decide +kernel
theorem dX11_init_143 : decode cX11_init 143 = .ok (.aload_n 0, 1) := by decide +kernel
theorem dX11_init_144 : decode cX11_init 144 = .ok (.bipush 6, 2) := by decide +kernel
theorem dX11_init_146 : decode cX11_init 146 = .ok (.newarray .int, 2) := by decide +kernel
theorem dX11_init_148 : decode cX11_init 148 = .ok (.putfield 77, 3) := by decide +kernel
theorem dX11_init_151 : decode cX11_init 151 = .ok (.aload_n 0, 1) := by decide +kernel
theorem dX11_init_152 : decode cX11_init 152 = .ok (.iconst 5, 1) := by decide +kernel
theorem dX11_init_153 : decode cX11_init 153 = .ok (.newarray .long, 2) := by decide +kernel
theorem dX11_init_155 : decode cX11_init 155 = .ok (.putfield 81, 3) := by decide +kernel
theorem dX11_init_158 : decode cX11_init 158 = .ok (.return_, 1) := by decide +kernel
theorem dX11_feed_0 : decode cX11_feed 0 = .ok (.aload_n 0, 1) := by decide +kernel
theorem dX11_feed_1 : decode cX11_feed 1 = .ok (.getfield 12, 3) := by decide +kernel
theorem dX11_feed_4 : decode cX11_feed 4 = .ok (.getfield 85, 3) := by decide +kernel
theorem dX11_feed_7 : decode cX11_feed 7 = .ok (.bipush 20, 2) := by decide +kernel
theorem dX11_feed_9 : decode cX11_feed 9 = .ok (.iadd, 1) := by decide +kernel
theorem dX11_feed_10 : decode cX11_feed 10 = .ok (.sipush 400, 3) := by decide +kernel
theorem dX11_feed_13 : decode cX11_feed 13 = .ok (.if_icmp .le 5, 3) := by decide +kernel
theorem dX11_feed_16 : decode cX11_feed 16 = .ok (.iconst (-1), 1) := by decide +kernel
theorem dX11_feed_17 : decode cX11_feed 17 = .ok (.ireturn, 1) := by decide +kernel
theorem dX11_feed_18 : decode cX11_feed 18 = .ok (.aload_n 0, 1) := by decide +kernel
theorem dX11_feed_19 : decode cX11_feed 19 = .ok (.getfield 12, 3) := by decide +kernel
theorem dX11_feed_22 : decode cX11_feed 22 = .ok (.iload_n 1, 1) := by decide +kernel
theorem dX11_feed_23 : decode cX11_feed 23 = .ok (.invokevirtual 89, 3) := by decide +kernel
theorem dX11_feed_26 : decode cX11_feed 26 = .ok (.aload_n 0, 1) := by decide +kernel
theorem dX11_feed_27 : decode cX11_feed 27 = .ok (.getfield 12, 3) := by decide +kernel
theorem dX11_feed_30 : decode cX11_feed 30 = .ok (.iload_n 2, 1) := by decide +kernel
theorem dX11_feed_31 : decode cX11_feed 31 = .ok (.invokevirtual 89, 3) := by decide +kernel
theorem dX11_feed_34 : decode cX11_feed 34 = .ok (.aload_n 0, 1) := by decide +kernel
theorem dX11_feed_35 : decode cX11_feed 35 = .ok (.getfield 12, 3) := by decide +kernel
theorem dX11_feed_38 : decode cX11_feed 38 = .ok (.iload_n 3, 1) := by decide +kernel
theorem dX11_feed_39 : decode cX11_feed 39 = .ok (.invokevirtual 89, 3) := by decide +kernel
theorem dX11_feed_42 : decode cX11_feed 42 = .ok (.aload_n 0, 1) := by decide +kernel
theorem dX11_feed_43 : decode cX11_feed 43 = .ok (.getfield 12, 3) := by decide +kernel
theorem dX11_feed_46 : decode cX11_feed 46 = .ok (.iload 4, 2) := by decide +kernel
theorem dX11_feed_48 : decode cX11_feed 48 = .ok (.invokevirtual 89, 3) := by decide +kernel
theorem dX11_feed_51 : decode cX11_feed 51 = .ok (.aload_n 0, 1) := by decide +kernel
theorem dX11_feed_52 : decode cX11_feed 52 = .ok (.getfield 12, 3) := by decide +kernel
theorem dX11_feed_55 : decode cX11_feed 55 = .ok (.iload 5, 2) := by decide +kernel
theorem dX11_feed_57 : decode cX11_feed 57 = .ok (.invokevirtual 89, 3) := by decide +kernel
theorem dX11_feed_60 : decode cX11_feed 60 = .ok (.aload_n 0, 1) := by decide +kernel
theorem dX11_feed_61 : decode cX11_feed 61 = .ok (.getfield 12, 3) := by decide +kernel
theorem dX11_feed_64 : decode cX11_feed 64 = .ok (.getfield 85, 3) := by decide +kernel
theorem dX11_feed_67 : decode cX11_feed 67 = .ok (.ireturn, 1) := by decide +kernel
theorem dX11_end_0 : decode cX11_end 0 = .ok (.iload_n 1, 1) := by decide +kernel
theorem dX11_end_1 : decode cX11_end 1 = .ok (.ifCond .lt 14, 3) := by decide +kernel
theorem dX11_end_4 : decode cX11_end 4 = .ok (.iload_n 1, 1) := by decide +kernel
theorem dX11_end_5 : decode cX11_end 5 = .ok (.aload_n 0, 1) := by decide +kernel
theorem dX11_end_6 : decode cX11_end 6 = .ok (.getfield 12, 3) := by decide +kernel
theorem dX11_end_9 : decode cX11_end 9 = .ok (.getfield 85, 3) := by decide +kernel
theorem dX11_end_12 : decode cX11_end 12 = .ok (.if_icmp .le 5, 3) := by decide +kernel
theorem dX11_end_15 : decode cX11_end 15 = .ok (.iconst (-1), 1) := by decide +kernel
theorem dX11_end_16 : decode cX11_end 16 = .ok (.ireturn, 1) := by decide +kernel
theorem dX11_end_17 : decode cX11_end 17 = .ok (.aload_n 0, 1) := by decide +kernel
theorem dX11_end_18 : decode cX11_end 18 = .ok (.getfield 12, 3) := by decide +kernel
theorem dX11_end_21 : decode cX11_end 21 = .ok (.iload_n 1, 1) := by decide +kernel
theorem dX11_end_22 : decode cX11_end 22 = .ok (.putfield 85, 3) := by decide +kernel
theorem dX11_end_25 : decode cX11_end 25 = .ok (.iload_n 1, 1) := by decide +kernel
theorem dX11_end_26 : decode cX11_end 26 = .ok (.ireturn, 1) := by decide +kernel
theorem dX11_text_0 : decode cX11_text 0 = .ok (.aload_n 0, 1) := by decide +kernel
theorem dX11_text_1 : decode cX11_text 1 = .ok (.getfield 35, 3) := by decide +kernel
theorem dX11_text_4 : decode cX11_text 4 = .ok (.getfield 93, 3) := by decide +kernel
theorem dX11_text_7 : decode cX11_text 7 = .ok (.bipush 30, 2) := by decide +kernel
theorem dX11_text_9 : decode cX11_text 9 = .ok (.if_icmp .lt 5, 3) := by decide +kernel
theorem dX11_text_12 : decode cX11_text 12 = .ok (.iconst (-1), 1) := by decide +kernel
theorem dX11_text_13 : decode cX11_text 13 = .ok (.ireturn, 1) := by decide +kernel
theorem dX11_text_14 : decode cX11_text 14 = .ok (.aload_n 0, 1) := by decide +kernel
theorem dX11_text_15 : decode cX11_text 15 = .ok (.getfield 27, 3) := by decide +kernel
theorem dX11_text_18 : decode cX11_text 18 = .ok (.aload_n 0, 1) := by decide +kernel
theorem dX11_text_19 : decode cX11_text 19 = .ok (.getfield 35, 3) := by decide +kernel
theorem dX11_text_22 : decode cX11_text 22 = .ok (.getfield 93, 3) := by decide +kernel
theorem dX11_text_25 : decode cX11_text 25 = .ok (.iconst 1, 1) := by decide +kernel
theorem dX11_text_26 : decode cX11_text 26 = .ok (.iadd, 1) := by decide +kernel
theorem dX11_text_27 : decode cX11_text 27 = .ok (.aaload, 1) := by decide +kernel
theorem dX11_text_28 : decode cX11_text 28 = .ok (.astore_n 1, 1) := by decide +kernel
theorem dX11_text_29 : decode cX11_text 29 = .ok (.aload_n 1, 1) := by decide +kernel
theorem dX11_text_30 : decode cX11_text 30 = .ok (.aload_n 0, 1) := by decide +kernel
theorem dX11_text_31 : decode cX11_text 31 = .ok (.getfield 27, 3) := by decide +kernel
theorem dX11_text_34 : decode cX11_text 34 = .ok (.aload_n 0, 1) := by decide +kernel
theorem dX11_text_35 : decode cX11_text 35 = .ok (.getfield 35, 3) := by decide +kernel
theorem dX11_text_38 : decode cX11_text 38 = .ok (.getfield 93, 3) := by decide +kernel
theorem dX11_text_41 : decode cX11_text 41 = .ok (.aaload, 1) := by decide +kernel
theorem dX11_text_42 : decode cX11_text 42 = .ok (.invokevirtual 96, 3) := by decide +kernel
theorem dX11_text_45 : decode cX11_text 45 = .ok (.aload_n 0, 1) := by decide +kernel
theorem dX11_text_46 : decode cX11_text 46 = .ok (.getfield 21, 3) := by decide +kernel
theorem dX11_text_49 : decode cX11_text 49 = .ok (.aload_n 1, 1) := by decide +kernel
theorem dX11_text_50 : decode cX11_text 50 = .ok (.invokevirtual 100, 3) := by decide +kernel
theorem dX11_text_53 : decode cX11_text 53 = .ok (.istore_n 2, 1) := by decide +kernel
theorem dX11_text_54 : decode cX11_text 54 = .ok (.aload_n 0, 1) := by decide +kernel
theorem dX11_text_55 : decode cX11_text 55 = .ok (.getfield 12, 3) := by decide +kernel
theorem dX11_text_58 : decode cX11_text 58 = .ok (.iconst 0, 1) := by decide +kernel
theorem dX11_text_59 : decode cX11_text 59 = .ok (.putfield 85, 3) := by decide +kernel
theorem dX11_text_62 : decode cX11_text 62 = .ok (.iload_n 2, 1) := by decide +kernel
theorem dX11_text_63 : decode cX11_text 63 = .ok (.ifCond .ne 5, 3) := by decide +kernel
theorem dX11_text_66 : decode cX11_text 66 = .ok (.iconst (-1), 1) := by decide +kernel
theorem dX11_text_67 : decode cX11_text 67 = .ok (.ireturn, 1) := by decide +kernel
theorem dX11_text_68 : decode cX11_text 68 = .ok (.aload_n 0, 1) := by decide +kernel
theorem dX11_text_69 : decode cX11_text 69 = .ok (.getfield 35, 3) := by decide +kernel
theorem dX11_text_72 : decode cX11_text 72 = .ok (.dup, 1) := by decide +kernel
theorem dX11_text_73 : decode cX11_text 73 = .ok (.getfield 93, 3) := by decide +kernel
theorem dX11_text_76 : decode cX11_text 76 = .ok (.iconst 1, 1) := by decide +kernel
theorem dX11_text_77 : decode cX11_text 77 = .ok (.iadd, 1) := by decide +kernel
theorem dX11_text_78 : decode cX11_text 78 = .ok (.putfield 93, 3) := by decide +kernel
theorem dX11_text_81 : decode cX11_text 81 = .ok (.aload_n 0, 1) := by decide +kernel
theorem dX11_text_82 : decode cX11_text 82 = .ok (.getfield 35, 3) := by decide +kernel
theorem dX11_text_85 : decode cX11_text 85 = .ok (.aload_n 0, 1) := by decide +kernel
theorem dX11_text_86 : decode cX11_text 86 = .ok (.getfield 35, 3) := by decide +kernel
theorem dX11_text_89 : decode cX11_text 89 = .ok (.getfield 93, 3) := by decide +kernel
theorem dX11_text_92 : decode cX11_text 92 = .ok (.putfield 104, 3) := by decide +kernel
theorem dX11_text_95 : decode cX11_text 95 = .ok (.aload_n 0, 1) := by decide +kernel
theorem dX11_text_96 : decode cX11_text 96 = .ok (.getfield 35, 3) := by decide +kernel
theorem dX11_text_99 : decode cX11_text 99 = .ok (.getfield 93, 3) := by decide +kernel
theorem dX11_text_102 : decode cX11_text 102 = .ok (.ireturn, 1) := by decide +kernel
theorem dX11_fault_0 : decode cX11_fault 0 = .ok (.aload_n 0, 1) := by decide +kernel
theorem dX11_fault_1 : decode cX11_fault 1 = .ok (.getfield 21, 3) := by decide +kernel
theorem dX11_fault_4 : decode cX11_fault 4 = .ok (.getfield 107, 3) := by decide +kernel
theorem dX11_fault_7 : decode cX11_fault 7 = .ok (.ifCond .eq 12, 3) := by decide +kernel
theorem dX11_fault_10 : decode cX11_fault 10 = .ok (.iload_n 1, 1) := by decide +kernel
theorem dX11_fault_11 : decode cX11_fault 11 = .ok (.ifCond .lt 8, 3) := by decide +kernel
theorem dX11_fault_14 : decode cX11_fault 14 = .ok (.iload_n 1, 1) := by decide +kernel
theorem dX11_fault_15 : decode cX11_fault 15 = .ok (.iconst 1, 1) := by decide +kernel
theorem dX11_fault_16 : decode cX11_fault 16 = .ok (.if_icmp .le 5, 3) := by decide +kernel
theorem dX11_fault_19 : decode cX11_fault 19 = .ok (.iconst (-1), 1) := by decide +kernel
theorem dX11_fault_20 : decode cX11_fault 20 = .ok (.ireturn, 1) := by decide +kernel
theorem dX11_fault_21 : decode cX11_fault 21 = .ok (.iload_n 1, 1) := by decide +kernel
theorem dX11_fault_22 : decode cX11_fault 22 = .ok (.ifCond .ne 13, 3) := by decide +kernel
theorem dX11_fault_25 : decode cX11_fault 25 = .ok (.aload_n 0, 1) := by decide +kernel
theorem dX11_fault_26 : decode cX11_fault 26 = .ok (.getfield 21, 3) := by decide +kernel
theorem dX11_fault_29 : decode cX11_fault 29 = .ok (.getfield 111, 3) := by decide +kernel
theorem dX11_fault_32 : decode cX11_fault 32 = .ok (.goto 10, 3) := by decide +kernel
theorem dX11_fault_35 : decode cX11_fault 35 = .ok (.aload_n 0, 1) := by decide +kernel
theorem dX11_fault_36 : decode cX11_fault 36 = .ok (.getfield 21, 3) := by decide +kernel
theorem dX11_fault_39 : decode cX11_fault 39 = .ok (.getfield 114, 3) := by decide +kernel
theorem dX11_fault_42 : decode cX11_fault 42 = .ok (.ireturn, 1) := by decide +kernel
theorem dX11_look_0 : decode cX11_look 0 = .ok (.iload_n 1, 1) := by decide +kernel
theorem dX11_look_1 : decode cX11_look 1 = .ok (.ifCond .lt 14, 3) := by decide +kernel
theorem dX11_look_4 : decode cX11_look 4 = .ok (.iload_n 1, 1) := by decide +kernel
theorem dX11_look_5 : decode cX11_look 5 = .ok (.aload_n 0, 1) := by decide +kernel
theorem dX11_look_6 : decode cX11_look 6 = .ok (.getfield 35, 3) := by decide +kernel
theorem dX11_look_9 : decode cX11_look 9 = .ok (.getfield 93, 3) := by decide +kernel
theorem dX11_look_12 : decode cX11_look 12 = .ok (.if_icmp .le 5, 3) := by decide +kernel
theorem dX11_look_15 : decode cX11_look 15 = .ok (.iconst 0, 1) := by decide +kernel
theorem dX11_look_16 : decode cX11_look 16 = .ok (.ireturn, 1) := by decide +kernel
theorem dX11_look_17 : decode cX11_look 17 = .ok (.aload_n 0, 1) := by decide +kernel
theorem dX11_look_18 : decode cX11_look 18 = .ok (.getfield 35, 3) := by decide +kernel
theorem dX11_look_21 : decode cX11_look 21 = .ok (.iload_n 1, 1) := by decide +kernel
theorem dX11_look_22 : decode cX11_look 22 = .ok (.putfield 104, 3) := by decide +kernel
theorem dX11_look_25 : decode cX11_look 25 = .ok (.iconst 1, 1) := by decide +kernel
theorem dX11_look_26 : decode cX11_look 26 = .ok (.ireturn, 1) := by decide +kernel
theorem dX11_weight_0 : decode cX11_weight 0 = .ok (.iload_n 1, 1) := by decide +kernel
theorem dX11_weight_1 : decode cX11_weight 1 = .ok (.invokestatic 117, 3) := by decide +kernel
theorem dX11_weight_4 : decode cX11_weight 4 = .ok (.ifCond .eq 15, 3) := by decide +kernel
theorem dX11_weight_7 : decode cX11_weight 7 = .ok (.aload_n 0, 1) := by decide +kernel
theorem dX11_weight_8 : decode cX11_weight 8 = .ok (.invokevirtual 121, 3) := by decide +kernel
theorem dX11_weight_11 : decode cX11_weight 11 = .ok (.getfield 125, 3) := by decide +kernel
theorem dX11_weight_14 : decode cX11_weight 14 = .ok (.iload_n 1, 1) := by decide +kernel
theorem dX11_weight_15 : decode cX11_weight 15 = .ok (.iaload, 1) := by decide +kernel
theorem dX11_weight_16 : decode cX11_weight 16 = .ok (.goto 4, 3) := by decide +kernel
theorem dX11_weight_19 : decode cX11_weight 19 = .ok (.iconst (-1), 1) := by decide +kernel
theorem dX11_weight_20 : decode cX11_weight 20 = .ok (.ireturn, 1) := by decide +kernel
theorem dX11_chain_0 : decode cX11_chain 0 = .ok (.iload_n 1, 1) := by decide +kernel
theorem dX11_chain_1 : decode cX11_chain 1 = .ok (.invokestatic 128, 3) := by decide +kernel
theorem dX11_chain_4 : decode cX11_chain 4 = .ok (.ifCond .eq 12, 3) := by decide +kernel
theorem dX11_chain_7 : decode cX11_chain 7 = .ok (.iload_n 2, 1) := by decide +kernel
theorem dX11_chain_8 : decode cX11_chain 8 = .ok (.ifCond .lt 8, 3) := by decide +kernel
theorem dX11_chain_11 : decode cX11_chain 11 = .ok (.iload_n 2, 1) := by decide +kernel
theorem dX11_chain_12 : decode cX11_chain 12 = .ok (.iconst 5, 1) := by decide +kernel
theorem dX11_chain_13 : decode cX11_chain 13 = .ok (.if_icmp .lt 5, 3) := by decide +kernel
theorem dX11_chain_16 : decode cX11_chain 16 = .ok (.iconst (-1), 1) := by decide +kernel
theorem dX11_chain_17 : decode cX11_chain 17 = .ok (.ireturn, 1) := by decide +kernel
theorem dX11_chain_18 : decode cX11_chain 18 = .ok (.aload_n 0, 1) := by decide +kernel
theorem dX11_chain_19 : decode cX11_chain 19 = .ok (.invokevirtual 121, 3) := by decide +kernel
theorem dX11_chain_22 : decode cX11_chain 22 = .ok (.iload_n 1, 1) := by decide +kernel
theorem dX11_chain_23 : decode cX11_chain 23 = .ok (.invokevirtual 131, 3) := by decide +kernel
theorem dX11_chain_26 : decode cX11_chain 26 = .ok (.ifCond .eq 15, 3) := by decide +kernel
theorem dX11_chain_29 : decode cX11_chain 29 = .ok (.aload_n 0, 1) := by decide +kernel
theorem dX11_chain_30 : decode cX11_chain 30 = .ok (.invokevirtual 121, 3) := by decide +kernel
theorem dX11_chain_33 : decode cX11_chain 33 = .ok (.iload_n 1, 1) := by decide +kernel
theorem dX11_chain_34 : decode cX11_chain 34 = .ok (.iload_n 2, 1) := by decide +kernel
theorem dX11_chain_35 : decode cX11_chain 35 = .ok (.invokevirtual 134, 3) := by decide +kernel
theorem dX11_chain_38 : decode cX11_chain 38 = .ok (.goto 4, 3) := by decide +kernel
theorem dX11_chain_41 : decode cX11_chain 41 = .ok (.iconst (-1), 1) := by decide +kernel
theorem dX11_chain_42 : decode cX11_chain 42 = .ok (.ireturn, 1) := by decide +kernel
theorem dX11_law_0 : decode cX11_law 0 = .ok (.iload_n 1, 1) := by decide +kernel
theorem dX11_law_1 : decode cX11_law 1 = .ok (.ifCond .lt 20, 3) := by decide +kernel
theorem dX11_law_4 : decode cX11_law 4 = .ok (.iload_n 1, 1) := by decide +kernel
theorem dX11_law_5 : decode cX11_law 5 = .ok (.bipush 7, 2) := by decide +kernel
theorem dX11_law_7 : decode cX11_law 7 = .ok (.if_icmp .ge 14, 3) := by decide +kernel
theorem dX11_law_10 : decode cX11_law 10 = .ok (.iload_n 2, 1) := by decide +kernel
theorem dX11_law_11 : decode cX11_law 11 = .ok (.ifCond .lt 10, 3) := by decide +kernel
theorem dX11_law_14 : decode cX11_law 14 = .ok (.iload_n 2, 1) := by decide +kernel
theorem dX11_law_15 : decode cX11_law 15 = .ok (.sipush 999, 3) := by decide +kernel
theorem dX11_law_18 : decode cX11_law 18 = .ok (.if_icmp .le 5, 3) := by decide +kernel
theorem dX11_law_21 : decode cX11_law 21 = .ok (.iconst (-1), 1) := by decide +kernel
theorem dX11_law_22 : decode cX11_law 22 = .ok (.ireturn, 1) := by decide +kernel
theorem dX11_law_23 : decode cX11_law 23 = .ok (.aload_n 0, 1) := by decide +kernel
theorem dX11_law_24 : decode cX11_law 24 = .ok (.invokevirtual 121, 3) := by decide +kernel
theorem dX11_law_27 : decode cX11_law 27 = .ok (.iload_n 1, 1) := by decide +kernel
theorem dX11_law_28 : decode cX11_law 28 = .ok (.iload_n 2, 1) := by decide +kernel
theorem dX11_law_29 : decode cX11_law 29 = .ok (.iload_n 3, 1) := by decide +kernel
theorem dX11_law_30 : decode cX11_law 30 = .ok (.invokevirtual 138, 3) := by decide +kernel
theorem dX11_law_33 : decode cX11_law 33 = .ok (.ireturn, 1) := by decide +kernel
theorem dX11_shell_0 : decode cX11_shell 0 = .ok (.iload_n 1, 1) := by decide +kernel
theorem dX11_shell_1 : decode cX11_shell 1 = .ok (.invokestatic 142, 3) := by decide +kernel
theorem dX11_shell_4 : decode cX11_shell 4 = .ok (.ifCond .eq 20, 3) := by decide +kernel
theorem dX11_shell_7 : decode cX11_shell 7 = .ok (.aload_n 0, 1) := by decide +kernel
theorem dX11_shell_8 : decode cX11_shell 8 = .ok (.getfield 35, 3) := by decide +kernel
theorem dX11_shell_11 : decode cX11_shell 11 = .ok (.getfield 145, 3) := by decide +kernel
theorem dX11_shell_14 : decode cX11_shell 14 = .ok (.iload_n 1, 1) := by decide +kernel
theorem dX11_shell_15 : decode cX11_shell 15 = .ok (.aaload, 1) := by decide +kernel
theorem dX11_shell_16 : decode cX11_shell 16 = .ok (.getfield 149, 3) := by decide +kernel
theorem dX11_shell_19 : decode cX11_shell 19 = .ok (.bipush 16, 2) := by decide +kernel
theorem dX11_shell_21 : decode cX11_shell 21 = .ok (.if_icmp .lt 5, 3) := by decide +kernel
theorem dX11_shell_24 : decode cX11_shell 24 = .ok (.iconst (-1), 1) := by decide +kernel
theorem dX11_shell_25 : decode cX11_shell 25 = .ok (.ireturn, 1) := by decide +kernel
theorem dX11_shell_26 : decode cX11_shell 26 = .ok (.aload_n 0, 1) := by decide +kernel
theorem dX11_shell_27 : decode cX11_shell 27 = .ok (.getfield 35, 3) := by decide +kernel
theorem dX11_shell_30 : decode cX11_shell 30 = .ok (.getfield 145, 3) := by decide +kernel
theorem dX11_shell_33 : decode cX11_shell 33 = .ok (.iload_n 1, 1) := by decide +kernel
theorem dX11_shell_34 : decode cX11_shell 34 = .ok (.aaload, 1) := by decide +kernel
theorem dX11_shell_35 : decode cX11_shell 35 = .ok (.dup, 1) := by decide +kernel
theorem dX11_shell_36 : decode cX11_shell 36 = .ok (.getfield 149, 3) := by decide +kernel
theorem dX11_shell_39 : decode cX11_shell 39 = .ok (.iconst 1, 1) := by decide +kernel
theorem dX11_shell_40 : decode cX11_shell 40 = .ok (.iadd, 1) := by decide +kernel
theorem dX11_shell_41 : decode cX11_shell 41 = .ok (.putfield 149, 3) := by decide +kernel
theorem dX11_shell_44 : decode cX11_shell 44 = .ok (.aload_n 0, 1) := by decide +kernel
theorem dX11_shell_45 : decode cX11_shell 45 = .ok (.getfield 35, 3) := by decide +kernel
theorem dX11_shell_48 : decode cX11_shell 48 = .ok (.getfield 145, 3) := by decide +kernel
theorem dX11_shell_51 : decode cX11_shell 51 = .ok (.iload_n 1, 1) := by decide +kernel
theorem dX11_shell_52 : decode cX11_shell 52 = .ok (.aaload, 1) := by decide +kernel
theorem dX11_shell_53 : decode cX11_shell 53 = .ok (.getfield 149, 3) := by decide +kernel
theorem dX11_shell_56 : decode cX11_shell 56 = .ok (.iconst 1, 1) := by decide +kernel
theorem dX11_shell_57 : decode cX11_shell 57 = .ok (.isub, 1) := by decide +kernel
theorem dX11_shell_58 : decode cX11_shell 58 = .ok (.ireturn, 1) := by decide +kernel
theorem dX11_fill_0 : decode cX11_fill 0 = .ok (.aload_n 0, 1) := by decide +kernel
theorem dX11_fill_1 : decode cX11_fill 1 = .ok (.iload_n 1, 1) := by decide +kernel
theorem dX11_fill_2 : decode cX11_fill 2 = .ok (.iload_n 2, 1) := by decide +kernel
theorem dX11_fill_3 : decode cX11_fill 3 = .ok (.invokevirtual 154, 3) := by decide +kernel
theorem dX11_fill_6 : decode cX11_fill 6 = .ok (.ifCond .eq 22, 3) := by decide +kernel
theorem dX11_fill_9 : decode cX11_fill 9 = .ok (.iload_n 3, 1) := by decide +kernel
theorem dX11_fill_10 : decode cX11_fill 10 = .ok (.invokestatic 117, 3) := by decide +kernel
theorem dX11_fill_13 : decode cX11_fill 13 = .ok (.ifCond .eq 15, 3) := by decide +kernel
theorem dX11_fill_16 : decode cX11_fill 16 = .ok (.iload 4, 2) := by decide +kernel
theorem dX11_fill_18 : decode cX11_fill 18 = .ok (.ifCond .lt 10, 3) := by decide +kernel
theorem dX11_fill_21 : decode cX11_fill 21 = .ok (.iload 4, 2) := by decide +kernel
theorem dX11_fill_23 : decode cX11_fill 23 = .ok (.ldc 158, 2) := by decide +kernel
theorem dX11_fill_25 : decode cX11_fill 25 = .ok (.if_icmp .le 5, 3) := by decide +kernel
theorem dX11_fill_28 : decode cX11_fill 28 = .ok (.iconst 0, 1) := by decide +kernel
theorem dX11_fill_29 : decode cX11_fill 29 = .ok (.ireturn, 1) := by decide +kernel
theorem dX11_fill_30 : decode cX11_fill 30 = .ok (.aload_n 0, 1) := by decide +kernel
theorem dX11_fill_31 : decode cX11_fill 31 = .ok (.getfield 35, 3) := by decide +kernel
theorem dX11_fill_34 : decode cX11_fill 34 = .ok (.getfield 145, 3) := by decide +kernel
theorem dX11_fill_37 : decode cX11_fill 37 = .ok (.iload_n 1, 1) := by decide +kernel
theorem dX11_fill_38 : decode cX11_fill 38 = .ok (.aaload, 1) := by decide +kernel
theorem dX11_fill_39 : decode cX11_fill 39 = .ok (.iload_n 2, 1) := by decide +kernel
theorem dX11_fill_40 : decode cX11_fill 40 = .ok (.iload_n 3, 1) := by decide +kernel
theorem dX11_fill_41 : decode cX11_fill 41 = .ok (.iload 4, 2) := by decide +kernel
theorem dX11_fill_43 : decode cX11_fill 43 = .ok (.invokevirtual 159, 3) := by decide +kernel
theorem dX11_fill_46 : decode cX11_fill 46 = .ok (.iconst 1, 1) := by decide +kernel
theorem dX11_fill_47 : decode cX11_fill 47 = .ok (.ireturn, 1) := by decide +kernel
theorem dX11_parts_0 : decode cX11_parts 0 = .ok (.aload_n 0, 1) := by decide +kernel
theorem dX11_parts_1 : decode cX11_parts 1 = .ok (.iload_n 1, 1) := by decide +kernel
theorem dX11_parts_2 : decode cX11_parts 2 = .ok (.iload_n 2, 1) := by decide +kernel
theorem dX11_parts_3 : decode cX11_parts 3 = .ok (.invokevirtual 154, 3) := by decide +kernel
theorem dX11_parts_6 : decode cX11_parts 6 = .ok (.ifCond .eq 10, 3) := by decide +kernel
theorem dX11_parts_9 : decode cX11_parts 9 = .ok (.iload_n 3, 1) := by decide +kernel
theorem dX11_parts_10 : decode cX11_parts 10 = .ok (.invokestatic 117, 3) := by decide +kernel
theorem dX11_parts_13 : decode cX11_parts 13 = .ok (.ifCond .ne 5, 3) := by decide +kernel
theorem dX11_parts_16 : decode cX11_parts 16 = .ok (.iconst (-1), 1) := by decide +kernel
theorem dX11_parts_17 : decode cX11_parts 17 = .ok (.ireturn, 1) := by decide +kernel
theorem dX11_parts_18 : decode cX11_parts 18 = .ok (.aload_n 0, 1) := by decide +kernel
theorem dX11_parts_19 : decode cX11_parts 19 = .ok (.getfield 35, 3) := by decide +kernel
theorem dX11_parts_22 : decode cX11_parts 22 = .ok (.getfield 145, 3) := by decide +kernel
theorem dX11_parts_25 : decode cX11_parts 25 = .ok (.iload_n 1, 1) := by decide +kernel
theorem dX11_parts_26 : decode cX11_parts 26 = .ok (.aaload, 1) := by decide +kernel
theorem dX11_parts_27 : decode cX11_parts 27 = .ok (.iload_n 2, 1) := by decide +kernel
theorem dX11_parts_28 : decode cX11_parts 28 = .ok (.iload_n 3, 1) := by decide +kernel
theorem dX11_parts_29 : decode cX11_parts 29 = .ok (.invokevirtual 163, 3) := by decide +kernel
theorem dX11_parts_32 : decode cX11_parts 32 = .ok (.ireturn, 1) := by decide +kernel
theorem dX11_rules_0 : decode cX11_rules 0 = .ok (.iload_n 1, 1) := by decide +kernel
theorem dX11_rules_1 : decode cX11_rules 1 = .ok (.invokestatic 142, 3) := by decide +kernel
theorem dX11_rules_4 : decode cX11_rules 4 = .ok (.ifCond .eq 24, 3) := by decide +kernel
theorem dX11_rules_7 : decode cX11_rules 7 = .ok (.iload_n 2, 1) := by decide +kernel
theorem dX11_rules_8 : decode cX11_rules 8 = .ok (.iconst 1, 1) := by decide +kernel
theorem dX11_rules_9 : decode cX11_rules 9 = .ok (.if_icmp .lt 19, 3) := by decide +kernel
theorem dX11_rules_12 : decode cX11_rules 12 = .ok (.iload_n 2, 1) := by decide +kernel
theorem dX11_rules_13 : decode cX11_rules 13 = .ok (.ldc 158, 2) := by decide +kernel
theorem dX11_rules_15 : decode cX11_rules 15 = .ok (.if_icmp .gt 13, 3) := by decide +kernel
theorem dX11_rules_18 : decode cX11_rules 18 = .ok (.iload_n 3, 1) := by decide +kernel
theorem dX11_rules_19 : decode cX11_rules 19 = .ok (.ifCond .lt 9, 3) := by decide +kernel
theorem dX11_rules_22 : decode cX11_rules 22 = .ok (.iload_n 3, 1) := by decide +kernel
theorem dX11_rules_23 : decode cX11_rules 23 = .ok (.ldc 166, 2) := by decide +kernel
theorem dX11_rules_25 : decode cX11_rules 25 = .ok (.if_icmp .le 5, 3) := by decide +kernel
theorem dX11_rules_28 : decode cX11_rules 28 = .ok (.iconst 0, 1) := by decide +kernel
theorem dX11_rules_29 : decode cX11_rules 29 = .ok (.ireturn, 1) := by decide +kernel
theorem dX11_rules_30 : decode cX11_rules 30 = .ok (.aload_n 0, 1) := by decide +kernel
theorem dX11_rules_31 : decode cX11_rules 31 = .ok (.getfield 35, 3) := by decide +kernel
theorem dX11_rules_34 : decode cX11_rules 34 = .ok (.getfield 145, 3) := by decide +kernel
theorem dX11_rules_37 : decode cX11_rules 37 = .ok (.iload_n 1, 1) := by decide +kernel
theorem dX11_rules_38 : decode cX11_rules 38 = .ok (.aaload, 1) := by decide +kernel
theorem dX11_rules_39 : decode cX11_rules 39 = .ok (.iload_n 2, 1) := by decide +kernel
theorem dX11_rules_40 : decode cX11_rules 40 = .ok (.putfield 167, 3) := by decide +kernel
theorem dX11_rules_43 : decode cX11_rules 43 = .ok (.aload_n 0, 1) := by decide +kernel
theorem dX11_rules_44 : decode cX11_rules 44 = .ok (.getfield 35, 3) := by decide +kernel
theorem dX11_rules_47 : decode cX11_rules 47 = .ok (.getfield 145, 3) := by decide +kernel
theorem dX11_rules_50 : decode cX11_rules 50 = .ok (.iload_n 1, 1) := by decide +kernel
theorem dX11_rules_51 : decode cX11_rules 51 = .ok (.aaload, 1) := by decide +kernel
theorem dX11_rules_52 : decode cX11_rules 52 = .ok (.iload_n 3, 1) := by decide +kernel
theorem dX11_rules_53 : decode cX11_rules 53 = .ok (.putfield 170, 3) := by decide +kernel
theorem dX11_rules_56 : decode cX11_rules 56 = .ok (.iconst 1, 1) := by decide +kernel
theorem dX11_rules_57 : decode cX11_rules 57 = .ok (.ireturn, 1) := by decide +kernel
theorem dX11_of_0 : decode cX11_of 0 = .ok (.aload_n 0, 1) := by decide +kernel
theorem dX11_of_1 : decode cX11_of 1 = .ok (.iload_n 1, 1) := by decide +kernel
theorem dX11_of_2 : decode cX11_of 2 = .ok (.iload_n 2, 1) := by decide +kernel
theorem dX11_of_3 : decode cX11_of 3 = .ok (.invokevirtual 154, 3) := by decide +kernel
theorem dX11_of_6 : decode cX11_of 6 = .ok (.ifCond .ne 5, 3) := by decide +kernel
theorem dX11_of_9 : decode cX11_of 9 = .ok (.iconst (-1), 1) := by decide +kernel
theorem dX11_of_10 : decode cX11_of 10 = .ok (.ireturn, 1) := by decide +kernel
theorem dX11_of_11 : decode cX11_of 11 = .ok (.aload_n 0, 1) := by decide +kernel
theorem dX11_of_12 : decode cX11_of 12 = .ok (.iload_n 1, 1) := by decide +kernel
theorem dX11_of_13 : decode cX11_of 13 = .ok (.invokevirtual 173, 3) := by decide +kernel
theorem dX11_of_16 : decode cX11_of 16 = .ok (.iload_n 3, 1) := by decide +kernel
theorem dX11_of_17 : decode cX11_of 17 = .ok (.tableswitch 119 0 5 #[39, 49, 59, 69, 79, 89], 39) := by decide +kernel
theorem dX11_of_56 : decode cX11_of 56 = .ok (.aload_n 0, 1) := by decide +kernel
theorem dX11_of_57 : decode cX11_of 57 = .ok (.getfield 66, 3) := by decide +kernel
theorem dX11_of_60 : decode cX11_of 60 = .ok (.getfield 176, 3) := by decide +kernel
theorem dX11_of_63 : decode cX11_of 63 = .ok (.iload_n 2, 1) := by decide +kernel
theorem dX11_of_64 : decode cX11_of 64 = .ok (.iaload, 1) := by decide +kernel
theorem dX11_of_65 : decode cX11_of 65 = .ok (.ireturn, 1) := by decide +kernel
theorem dX11_of_66 : decode cX11_of 66 = .ok (.aload_n 0, 1) := by decide +kernel
theorem dX11_of_67 : decode cX11_of 67 = .ok (.getfield 66, 3) := by decide +kernel
theorem dX11_of_70 : decode cX11_of 70 = .ok (.getfield 177, 3) := by decide +kernel
theorem dX11_of_73 : decode cX11_of 73 = .ok (.iload_n 2, 1) := by decide +kernel
theorem dX11_of_74 : decode cX11_of 74 = .ok (.iaload, 1) := by decide +kernel
theorem dX11_of_75 : decode cX11_of 75 = .ok (.ireturn, 1) := by decide +kernel
theorem dX11_of_76 : decode cX11_of 76 = .ok (.aload_n 0, 1) := by decide +kernel
theorem dX11_of_77 : decode cX11_of 77 = .ok (.getfield 66, 3) := by decide +kernel
theorem dX11_of_80 : decode cX11_of 80 = .ok (.getfield 180, 3) := by decide +kernel
theorem dX11_of_83 : decode cX11_of 83 = .ok (.iload_n 2, 1) := by decide +kernel
theorem dX11_of_84 : decode cX11_of 84 = .ok (.iaload, 1) := by decide +kernel
theorem dX11_of_85 : decode cX11_of 85 = .ok (.ireturn, 1) := by decide +kernel
theorem dX11_of_86 : decode cX11_of 86 = .ok (.aload_n 0, 1) := by decide +kernel
theorem dX11_of_87 : decode cX11_of 87 = .ok (.getfield 66, 3) := by decide +kernel
theorem dX11_of_90 : decode cX11_of 90 = .ok (.getfield 183, 3) := by decide +kernel
theorem dX11_of_93 : decode cX11_of 93 = .ok (.iload_n 2, 1) := by decide +kernel
theorem dX11_of_94 : decode cX11_of 94 = .ok (.iaload, 1) := by decide +kernel
theorem dX11_of_95 : decode cX11_of 95 = .ok (.ireturn, 1) := by decide +kernel
theorem dX11_of_96 : decode cX11_of 96 = .ok (.aload_n 0, 1) := by decide +kernel
theorem dX11_of_97 : decode cX11_of 97 = .ok (.getfield 66, 3) := by decide +kernel
theorem dX11_of_100 : decode cX11_of 100 = .ok (.getfield 186, 3) := by decide +kernel
theorem dX11_of_103 : decode cX11_of 103 = .ok (.iload_n 2, 1) := by decide +kernel
theorem dX11_of_104 : decode cX11_of 104 = .ok (.iaload, 1) := by decide +kernel
theorem dX11_of_105 : decode cX11_of 105 = .ok (.ireturn, 1) := by decide +kernel
theorem dX11_of_106 : decode cX11_of 106 = .ok (.aload_n 0, 1) := by decide +kernel
theorem dX11_of_107 : decode cX11_of 107 = .ok (.getfield 66, 3) := by decide +kernel
theorem dX11_of_110 : decode cX11_of 110 = .ok (.aload_n 0, 1) := by decide +kernel
theorem dX11_of_111 : decode cX11_of 111 = .ok (.getfield 35, 3) := by decide +kernel
theorem dX11_of_114 : decode cX11_of 114 = .ok (.getfield 145, 3) := by decide +kernel
theorem dX11_of_117 : decode cX11_of 117 = .ok (.iload_n 1, 1) := by decide +kernel
theorem dX11_of_118 : decode cX11_of 118 = .ok (.aaload, 1) := by decide +kernel
theorem dX11_of_119 : decode cX11_of 119 = .ok (.aload_n 0, 1) := by decide +kernel
theorem dX11_of_120 : decode cX11_of 120 = .ok (.invokevirtual 121, 3) := by decide +kernel
theorem dX11_of_123 : decode cX11_of 123 = .ok (.invokevirtual 189, 3) := by decide +kernel
theorem dX11_of_126 : decode cX11_of 126 = .ok (.aload_n 0, 1) := by decide +kernel
theorem dX11_of_127 : decode cX11_of 127 = .ok (.getfield 66, 3) := by decide +kernel
theorem dX11_of_130 : decode cX11_of 130 = .ok (.getfield 193, 3) := by decide +kernel
theorem dX11_of_133 : decode cX11_of 133 = .ok (.iload_n 2, 1) := by decide +kernel
theorem dX11_of_134 : decode cX11_of 134 = .ok (.iaload, 1) := by decide +kernel
theorem dX11_of_135 : decode cX11_of 135 = .ok (.ireturn, 1) := by decide +kernel
theorem dX11_of_136 : decode cX11_of 136 = .ok (.iconst (-1), 1) := by decide +kernel
theorem dX11_of_137 : decode cX11_of 137 = .ok (.ireturn, 1) := by decide +kernel
theorem dX11_box_0 : decode cX11_box 0 = .ok (.aload_n 0, 1) := by decide +kernel
theorem dX11_box_1 : decode cX11_box 1 = .ok (.iload_n 1, 1) := by decide +kernel
theorem dX11_box_2 : decode cX11_box 2 = .ok (.iload_n 2, 1) := by decide +kernel
theorem dX11_box_3 : decode cX11_box 3 = .ok (.invokevirtual 154, 3) := by decide +kernel
theorem dX11_box_6 : decode cX11_box 6 = .ok (.ifCond .ne 5, 3) := by decide +kernel
theorem dX11_box_9 : decode cX11_box 9 = .ok (.iconst (-1), 1) := by decide +kernel
theorem dX11_box_10 : decode cX11_box 10 = .ok (.ireturn, 1) := by decide +kernel
theorem dX11_box_11 : decode cX11_box 11 = .ok (.aload_n 0, 1) := by decide +kernel
theorem dX11_box_12 : decode cX11_box 12 = .ok (.iload_n 1, 1) := by decide +kernel
theorem dX11_box_13 : decode cX11_box 13 = .ok (.invokevirtual 173, 3) := by decide +kernel
theorem dX11_box_16 : decode cX11_box 16 = .ok (.aload_n 0, 1) := by decide +kernel
theorem dX11_box_17 : decode cX11_box 17 = .ok (.getfield 66, 3) := by decide +kernel
theorem dX11_box_20 : decode cX11_box 20 = .ok (.getfield 196, 3) := by decide +kernel
theorem dX11_box_23 : decode cX11_box 23 = .ok (.astore 5, 2) := by decide +kernel
theorem dX11_box_25 : decode cX11_box 25 = .ok (.aload 5, 2) := by decide +kernel
theorem dX11_box_27 : decode cX11_box 27 = .ok (.aload_n 0, 1) := by decide +kernel
theorem dX11_box_28 : decode cX11_box 28 = .ok (.invokevirtual 121, 3) := by decide +kernel
theorem dX11_box_31 : decode cX11_box 31 = .ok (.aload_n 0, 1) := by decide +kernel
theorem dX11_box_32 : decode cX11_box 32 = .ok (.getfield 66, 3) := by decide +kernel
theorem dX11_box_35 : decode cX11_box 35 = .ok (.getfield 177, 3) := by decide +kernel
theorem dX11_box_38 : decode cX11_box 38 = .ok (.iload_n 2, 1) := by decide +kernel
theorem dX11_box_39 : decode cX11_box 39 = .ok (.iaload, 1) := by decide +kernel
theorem dX11_box_40 : decode cX11_box 40 = .ok (.invokevirtual 200, 3) := by decide +kernel
theorem dX11_box_43 : decode cX11_box 43 = .ok (.iload_n 3, 1) := by decide +kernel
theorem dX11_box_44 : decode cX11_box 44 = .ok (.ifCond .lt 12, 3) := by decide +kernel
theorem dX11_box_47 : decode cX11_box 47 = .ok (.iload_n 3, 1) := by decide +kernel
theorem dX11_box_48 : decode cX11_box 48 = .ok (.aload 5, 2) := by decide +kernel
theorem dX11_box_50 : decode cX11_box 50 = .ok (.getfield 206, 3) := by decide +kernel
theorem dX11_box_53 : decode cX11_box 53 = .ok (.if_icmp .lt 5, 3) := by decide +kernel
theorem dX11_box_56 : decode cX11_box 56 = .ok (.iconst (-1), 1) := by decide +kernel
theorem dX11_box_57 : decode cX11_box 57 = .ok (.ireturn, 1) := by decide +kernel
theorem dX11_box_58 : decode cX11_box 58 = .ok (.iload 4, 2) := by decide +kernel
theorem dX11_box_60 : decode cX11_box 60 = .ok (.ifCond .eq 13, 3) := by decide +kernel
theorem dX11_box_63 : decode cX11_box 63 = .ok (.aload 5, 2) := by decide +kernel
theorem dX11_box_65 : decode cX11_box 65 = .ok (.getfield 209, 3) := by decide +kernel
theorem dX11_box_68 : decode cX11_box 68 = .ok (.iload_n 3, 1) := by decide +kernel
theorem dX11_box_69 : decode cX11_box 69 = .ok (.iaload, 1) := by decide +kernel
theorem dX11_box_70 : decode cX11_box 70 = .ok (.goto 10, 3) := by decide +kernel
theorem dX11_box_73 : decode cX11_box 73 = .ok (.aload 5, 2) := by decide +kernel
theorem dX11_box_75 : decode cX11_box 75 = .ok (.getfield 212, 3) := by decide +kernel
theorem dX11_box_78 : decode cX11_box 78 = .ok (.iload_n 3, 1) := by decide +kernel
theorem dX11_box_79 : decode cX11_box 79 = .ok (.iaload, 1) := by decide +kernel
theorem dX11_box_80 : decode cX11_box 80 = .ok (.ireturn, 1) := by decide +kernel
theorem dX11_through_0 : decode cX11_through 0 = .ok (.aload_n 0, 1) := by decide +kernel
theorem dX11_through_1 : decode cX11_through 1 = .ok (.iload_n 1, 1) := by decide +kernel
theorem dX11_through_2 : decode cX11_through 2 = .ok (.iload_n 2, 1) := by decide +kernel
theorem dX11_through_3 : decode cX11_through 3 = .ok (.invokevirtual 154, 3) := by decide +kernel
theorem dX11_through_6 : decode cX11_through 6 = .ok (.ifCond .ne 7, 3) := by decide +kernel
theorem dX11_through_9 : decode cX11_through 9 = .ok (.ldc2_w 215, 3) := by decide +kernel
theorem dX11_through_12 : decode cX11_through 12 = .ok (.lreturn, 1) := by decide +kernel
theorem dX11_through_13 : decode cX11_through 13 = .ok (.aload_n 0, 1) := by decide +kernel
theorem dX11_through_14 : decode cX11_through 14 = .ok (.iload_n 1, 1) := by decide +kernel
theorem dX11_through_15 : decode cX11_through 15 = .ok (.invokevirtual 173, 3) := by decide +kernel
theorem dX11_through_18 : decode cX11_through 18 = .ok (.aload_n 0, 1) := by decide +kernel
theorem dX11_through_19 : decode cX11_through 19 = .ok (.getfield 66, 3) := by decide +kernel
theorem dX11_through_22 : decode cX11_through 22 = .ok (.aload_n 0, 1) := by decide +kernel
theorem dX11_through_23 : decode cX11_through 23 = .ok (.getfield 35, 3) := by decide +kernel
theorem dX11_through_26 : decode cX11_through 26 = .ok (.getfield 145, 3) := by decide +kernel
theorem dX11_through_29 : decode cX11_through 29 = .ok (.iload_n 1, 1) := by decide +kernel
theorem dX11_through_30 : decode cX11_through 30 = .ok (.aaload, 1) := by decide +kernel
theorem dX11_through_31 : decode cX11_through 31 = .ok (.aload_n 0, 1) := by decide +kernel
theorem dX11_through_32 : decode cX11_through 32 = .ok (.invokevirtual 121, 3) := by decide +kernel
theorem dX11_through_35 : decode cX11_through 35 = .ok (.invokevirtual 189, 3) := by decide +kernel
theorem dX11_through_38 : decode cX11_through 38 = .ok (.iload_n 3, 1) := by decide +kernel
theorem dX11_through_39 : decode cX11_through 39 = .ok (.ifCond .eq 15, 3) := by decide +kernel
theorem dX11_through_42 : decode cX11_through 42 = .ok (.aload_n 0, 1) := by decide +kernel
theorem dX11_through_43 : decode cX11_through 43 = .ok (.getfield 66, 3) := by decide +kernel
theorem dX11_through_46 : decode cX11_through 46 = .ok (.getfield 217, 3) := by decide +kernel
theorem dX11_through_49 : decode cX11_through 49 = .ok (.iload_n 2, 1) := by decide +kernel
theorem dX11_through_50 : decode cX11_through 50 = .ok (.laload, 1) := by decide +kernel
theorem dX11_through_51 : decode cX11_through 51 = .ok (.goto 12, 3) := by decide +kernel
theorem dX11_through_54 : decode cX11_through 54 = .ok (.aload_n 0, 1) := by decide +kernel
theorem dX11_through_55 : decode cX11_through 55 = .ok (.getfield 66, 3) := by decide +kernel
theorem dX11_through_58 : decode cX11_through 58 = .ok (.getfield 220, 3) := by decide +kernel
theorem dX11_through_61 : decode cX11_through 61 = .ok (.iload_n 2, 1) := by decide +kernel
theorem dX11_through_62 : decode cX11_through 62 = .ok (.laload, 1) := by decide +kernel
theorem dX11_through_63 : decode cX11_through 63 = .ok (.lreturn, 1) := by decide +kernel
theorem dX11_settled_0 : decode cX11_settled 0 = .ok (.iload_n 1, 1) := by decide +kernel
theorem dX11_settled_1 : decode cX11_settled 1 = .ok (.invokestatic 142, 3) := by decide +kernel
theorem dX11_settled_4 : decode cX11_settled 4 = .ok (.ifCond .ne 5, 3) := by decide +kernel
theorem dX11_settled_7 : decode cX11_settled 7 = .ok (.iconst (-1), 1) := by decide +kernel
theorem dX11_settled_8 : decode cX11_settled 8 = .ok (.ireturn, 1) := by decide +kernel
theorem dX11_settled_9 : decode cX11_settled 9 = .ok (.aload_n 0, 1) := by decide +kernel
theorem dX11_settled_10 : decode cX11_settled 10 = .ok (.iload_n 1, 1) := by decide +kernel
theorem dX11_settled_11 : decode cX11_settled 11 = .ok (.invokevirtual 173, 3) := by decide +kernel
theorem dX11_settled_14 : decode cX11_settled 14 = .ok (.aload_n 0, 1) := by decide +kernel
theorem dX11_settled_15 : decode cX11_settled 15 = .ok (.getfield 66, 3) := by decide +kernel
theorem dX11_settled_18 : decode cX11_settled 18 = .ok (.getfield 223, 3) := by decide +kernel
theorem dX11_settled_21 : decode cX11_settled 21 = .ok (.ireturn, 1) := by decide +kernel
theorem dX11_steps_0 : decode cX11_steps 0 = .ok (.iload_n 1, 1) := by decide +kernel
theorem dX11_steps_1 : decode cX11_steps 1 = .ok (.invokestatic 142, 3) := by decide +kernel
theorem dX11_steps_4 : decode cX11_steps 4 = .ok (.ifCond .eq 14, 3) := by decide +kernel
theorem dX11_steps_7 : decode cX11_steps 7 = .ok (.iload_n 2, 1) := by decide +kernel
theorem dX11_steps_8 : decode cX11_steps 8 = .ok (.iconst 1, 1) := by decide +kernel
theorem dX11_steps_9 : decode cX11_steps 9 = .ok (.if_icmp .lt 9, 3) := by decide +kernel
theorem dX11_steps_12 : decode cX11_steps 12 = .ok (.iload_n 2, 1) := by decide +kernel
theorem dX11_steps_13 : decode cX11_steps 13 = .ok (.bipush 50, 2) := by decide +kernel
theorem dX11_steps_15 : decode cX11_steps 15 = .ok (.if_icmp .le 5, 3) := by decide +kernel
theorem dX11_steps_18 : decode cX11_steps 18 = .ok (.iconst (-1), 1) := by decide +kernel
theorem dX11_steps_19 : decode cX11_steps 19 = .ok (.ireturn, 1) := by decide +kernel
theorem dX11_steps_20 : decode cX11_steps 20 = .ok (.iconst 0, 1) := by decide +kernel
theorem dX11_steps_21 : decode cX11_steps 21 = .ok (.istore_n 3, 1) := by decide +kernel
theorem dX11_steps_22 : decode cX11_steps 22 = .ok (.iload_n 3, 1) := by decide +kernel
theorem dX11_steps_23 : decode cX11_steps 23 = .ok (.iload_n 2, 1) := by decide +kernel
theorem dX11_steps_24 : decode cX11_steps 24 = .ok (.if_icmp .ge 17, 3) := by decide +kernel
theorem dX11_steps_27 : decode cX11_steps 27 = .ok (.aload_n 0, 1) := by decide +kernel
theorem dX11_steps_28 : decode cX11_steps 28 = .ok (.iload_n 1, 1) := by decide +kernel
theorem dX11_steps_29 : decode cX11_steps 29 = .ok (.invokevirtual 226, 3) := by decide +kernel
theorem dX11_steps_32 : decode cX11_steps 32 = .ok (.ifCond .eq 9, 3) := by decide +kernel
theorem dX11_steps_35 : decode cX11_steps 35 = .ok (.iinc 3 1, 3) := by decide +kernel
theorem dX11_steps_38 : decode cX11_steps 38 = .ok (.goto (-16), 3) := by decide +kernel
theorem dX11_steps_41 : decode cX11_steps 41 = .ok (.iload_n 3, 1) := by decide +kernel
theorem dX11_steps_42 : decode cX11_steps 42 = .ok (.ireturn, 1) := by decide +kernel
theorem dX11_event_0 : decode cX11_event 0 = .ok (.iload_n 1, 1) := by decide +kernel
theorem dX11_event_1 : decode cX11_event 1 = .ok (.ifCond .lt 23, 3) := by decide +kernel
theorem dX11_event_4 : decode cX11_event 4 = .ok (.iload_n 1, 1) := by decide +kernel
theorem dX11_event_5 : decode cX11_event 5 = .ok (.aload_n 0, 1) := by decide +kernel
theorem dX11_event_6 : decode cX11_event 6 = .ok (.getfield 35, 3) := by decide +kernel
theorem dX11_event_9 : decode cX11_event 9 = .ok (.getfield 229, 3) := by decide +kernel
theorem dX11_event_12 : decode cX11_event 12 = .ok (.if_icmp .ge 12, 3) := by decide +kernel
theorem dX11_event_15 : decode cX11_event 15 = .ok (.iload_n 2, 1) := by decide +kernel
theorem dX11_event_16 : decode cX11_event 16 = .ok (.ifCond .lt 8, 3) := by decide +kernel
theorem dX11_event_19 : decode cX11_event 19 = .ok (.iload_n 2, 1) := by decide +kernel
theorem dX11_event_20 : decode cX11_event 20 = .ok (.iconst 5, 1) := by decide +kernel
theorem dX11_event_21 : decode cX11_event 21 = .ok (.if_icmp .lt 5, 3) := by decide +kernel
theorem dX11_event_24 : decode cX11_event 24 = .ok (.iconst (-1), 1) := by decide +kernel
theorem dX11_event_25 : decode cX11_event 25 = .ok (.ireturn, 1) := by decide +kernel
theorem dX11_event_26 : decode cX11_event 26 = .ok (.aload_n 0, 1) := by decide +kernel
theorem dX11_event_27 : decode cX11_event 27 = .ok (.getfield 45, 3) := by decide +kernel
theorem dX11_event_30 : decode cX11_event 30 = .ok (.getfield 231, 3) := by decide +kernel
theorem dX11_event_33 : decode cX11_event 33 = .ok (.iload_n 1, 1) := by decide +kernel
theorem dX11_event_34 : decode cX11_event 34 = .ok (.iconst 5, 1) := by decide +kernel
theorem dX11_event_35 : decode cX11_event 35 = .ok (.imul, 1) := by decide +kernel
theorem dX11_event_36 : decode cX11_event 36 = .ok (.iload_n 2, 1) := by decide +kernel
theorem dX11_event_37 : decode cX11_event 37 = .ok (.iadd, 1) := by decide +kernel
theorem dX11_event_38 : decode cX11_event 38 = .ok (.iaload, 1) := by decide +kernel
theorem dX11_event_39 : decode cX11_event 39 = .ok (.ireturn, 1) := by decide +kernel
theorem dX11_hand_0 : decode cX11_hand 0 = .ok (.iload_n 1, 1) := by decide +kernel
theorem dX11_hand_1 : decode cX11_hand 1 = .ok (.invokestatic 142, 3) := by decide +kernel
theorem dX11_hand_4 : decode cX11_hand 4 = .ok (.ifCond .eq 14, 3) := by decide +kernel
theorem dX11_hand_7 : decode cX11_hand 7 = .ok (.iload_n 2, 1) := by decide +kernel
theorem dX11_hand_8 : decode cX11_hand 8 = .ok (.iconst 1, 1) := by decide +kernel
theorem dX11_hand_9 : decode cX11_hand 9 = .ok (.if_icmp .lt 9, 3) := by decide +kernel
theorem dX11_hand_12 : decode cX11_hand 12 = .ok (.iload_n 2, 1) := by decide +kernel
theorem dX11_hand_13 : decode cX11_hand 13 = .ok (.ldc 158, 2) := by decide +kernel
theorem dX11_hand_15 : decode cX11_hand 15 = .ok (.if_icmp .le 5, 3) := by decide +kernel
theorem dX11_hand_18 : decode cX11_hand 18 = .ok (.iconst 0, 1) := by decide +kernel
theorem dX11_hand_19 : decode cX11_hand 19 = .ok (.ireturn, 1) := by decide +kernel
theorem dX11_hand_20 : decode cX11_hand 20 = .ok (.aload_n 0, 1) := by decide +kernel
theorem dX11_hand_21 : decode cX11_hand 21 = .ok (.getfield 35, 3) := by decide +kernel
theorem dX11_hand_24 : decode cX11_hand 24 = .ok (.getfield 145, 3) := by decide +kernel
theorem dX11_hand_27 : decode cX11_hand 27 = .ok (.iload_n 1, 1) := by decide +kernel
theorem dX11_hand_28 : decode cX11_hand 28 = .ok (.aaload, 1) := by decide +kernel
theorem dX11_hand_29 : decode cX11_hand 29 = .ok (.aload_n 0, 1) := by decide +kernel
theorem dX11_hand_30 : decode cX11_hand 30 = .ok (.getfield 35, 3) := by decide +kernel
theorem dX11_hand_33 : decode cX11_hand 33 = .ok (.getfield 145, 3) := by decide +kernel
theorem dX11_hand_36 : decode cX11_hand 36 = .ok (.iconst 1, 1) := by decide +kernel
theorem dX11_hand_37 : decode cX11_hand 37 = .ok (.iload_n 1, 1) := by decide +kernel
theorem dX11_hand_38 : decode cX11_hand 38 = .ok (.isub, 1) := by decide +kernel
theorem dX11_hand_39 : decode cX11_hand 39 = .ok (.aaload, 1) := by decide +kernel
theorem dX11_hand_40 : decode cX11_hand 40 = .ok (.iload_n 2, 1) := by decide +kernel
theorem dX11_hand_41 : decode cX11_hand 41 = .ok (.invokevirtual 234, 3) := by decide +kernel
theorem dX11_hand_44 : decode cX11_hand 44 = .ok (.ireturn, 1) := by decide +kernel
theorem dX11_light_0 : decode cX11_light 0 = .ok (.aload_n 0, 1) := by decide +kernel
theorem dX11_light_1 : decode cX11_light 1 = .ok (.iload_n 1, 1) := by decide +kernel
theorem dX11_light_2 : decode cX11_light 2 = .ok (.iload_n 2, 1) := by decide +kernel
theorem dX11_light_3 : decode cX11_light 3 = .ok (.invokevirtual 154, 3) := by decide +kernel
theorem dX11_light_6 : decode cX11_light 6 = .ok (.ifCond .eq 10, 3) := by decide +kernel
theorem dX11_light_9 : decode cX11_light 9 = .ok (.iload_n 3, 1) := by decide +kernel
theorem dX11_light_10 : decode cX11_light 10 = .ok (.invokestatic 128, 3) := by decide +kernel
theorem dX11_light_13 : decode cX11_light 13 = .ok (.ifCond .ne 7, 3) := by decide +kernel
theorem dX11_light_16 : decode cX11_light 16 = .ok (.ldc2_w 215, 3) := by decide +kernel
theorem dX11_light_19 : decode cX11_light 19 = .ok (.lreturn, 1) := by decide +kernel
theorem dX11_light_20 : decode cX11_light 20 = .ok (.aload_n 0, 1) := by decide +kernel
theorem dX11_light_21 : decode cX11_light 21 = .ok (.getfield 35, 3) := by decide +kernel
theorem dX11_light_24 : decode cX11_light 24 = .ok (.getfield 145, 3) := by decide +kernel
theorem dX11_light_27 : decode cX11_light 27 = .ok (.iload_n 1, 1) := by decide +kernel
theorem dX11_light_28 : decode cX11_light 28 = .ok (.aaload, 1) := by decide +kernel
theorem dX11_light_29 : decode cX11_light 29 = .ok (.getfield 238, 3) := by decide +kernel
theorem dX11_light_32 : decode cX11_light 32 = .ok (.iload_n 2, 1) := by decide +kernel
theorem dX11_light_33 : decode cX11_light 33 = .ok (.iconst 5, 1) := by decide +kernel
theorem dX11_light_34 : decode cX11_light 34 = .ok (.imul, 1) := by decide +kernel
theorem dX11_light_35 : decode cX11_light 35 = .ok (.iload_n 3, 1) := by decide +kernel
theorem dX11_light_36 : decode cX11_light 36 = .ok (.iadd, 1) := by decide +kernel
theorem dX11_light_37 : decode cX11_light 37 = .ok (.laload, 1) := by decide +kernel
theorem dX11_light_38 : decode cX11_light 38 = .ok (.lreturn, 1) := by decide +kernel
theorem dX11_sheet_0 : decode cX11_sheet 0 = .ok (.iload_n 1, 1) := by decide +kernel
theorem dX11_sheet_1 : decode cX11_sheet 1 = .ok (.invokestatic 142, 3) := by decide +kernel
theorem dX11_sheet_4 : decode cX11_sheet 4 = .ok (.ifCond .ne 5, 3) := by decide +kernel
theorem dX11_sheet_7 : decode cX11_sheet 7 = .ok (.iconst 0, 1) := by decide +kernel
theorem dX11_sheet_8 : decode cX11_sheet 8 = .ok (.ireturn, 1) := by decide +kernel
theorem dX11_sheet_9 : decode cX11_sheet 9 = .ok (.aload_n 0, 1) := by decide +kernel
theorem dX11_sheet_10 : decode cX11_sheet 10 = .ok (.getfield 59, 3) := by decide +kernel
theorem dX11_sheet_13 : decode cX11_sheet 13 = .ok (.iload_n 1, 1) := by decide +kernel
theorem dX11_sheet_14 : decode cX11_sheet 14 = .ok (.aload_n 0, 1) := by decide +kernel
theorem dX11_sheet_15 : decode cX11_sheet 15 = .ok (.getfield 35, 3) := by decide +kernel
theorem dX11_sheet_18 : decode cX11_sheet 18 = .ok (.getfield 145, 3) := by decide +kernel
theorem dX11_sheet_21 : decode cX11_sheet 21 = .ok (.iload_n 1, 1) := by decide +kernel
theorem dX11_sheet_22 : decode cX11_sheet 22 = .ok (.aaload, 1) := by decide +kernel
theorem dX11_sheet_23 : decode cX11_sheet 23 = .ok (.getfield 238, 3) := by decide +kernel
theorem dX11_sheet_26 : decode cX11_sheet 26 = .ok (.invokevirtual 241, 3) := by decide +kernel
theorem dX11_sheet_29 : decode cX11_sheet 29 = .ok (.iconst 1, 1) := by decide +kernel
theorem dX11_sheet_30 : decode cX11_sheet 30 = .ok (.ireturn, 1) := by decide +kernel
theorem dX11_alter_0 : decode cX11_alter 0 = .ok (.aload_n 0, 1) := by decide +kernel
theorem dX11_alter_1 : decode cX11_alter 1 = .ok (.getfield 59, 3) := by decide +kernel
theorem dX11_alter_4 : decode cX11_alter 4 = .ok (.getfield 245, 3) := by decide +kernel
theorem dX11_alter_7 : decode cX11_alter 7 = .ok (.iconst (-1), 1) := by decide +kernel
theorem dX11_alter_8 : decode cX11_alter 8 = .ok (.if_icmp .eq 26, 3) := by decide +kernel
theorem dX11_alter_11 : decode cX11_alter 11 = .ok (.iload_n 1, 1) := by decide +kernel
theorem dX11_alter_12 : decode cX11_alter 12 = .ok (.ifCond .lt 22, 3) := by decide +kernel
theorem dX11_alter_15 : decode cX11_alter 15 = .ok (.iload_n 1, 1) := by decide +kernel
theorem dX11_alter_16 : decode cX11_alter 16 = .ok (.bipush 16, 2) := by decide +kernel
theorem dX11_alter_18 : decode cX11_alter 18 = .ok (.if_icmp .ge 16, 3) := by decide +kernel
theorem dX11_alter_21 : decode cX11_alter 21 = .ok (.iload_n 2, 1) := by decide +kernel
theorem dX11_alter_22 : decode cX11_alter 22 = .ok (.invokestatic 128, 3) := by decide +kernel
theorem dX11_alter_25 : decode cX11_alter 25 = .ok (.ifCond .eq 9, 3) := by decide +kernel
theorem dX11_alter_28 : decode cX11_alter 28 = .ok (.lload_n 3, 1) := by decide +kernel
theorem dX11_alter_29 : decode cX11_alter 29 = .ok (.lconst 0, 1) := by decide +kernel
theorem dX11_alter_30 : decode cX11_alter 30 = .ok (.lcmp, 1) := by decide +kernel
theorem dX11_alter_31 : decode cX11_alter 31 = .ok (.ifCond .ne 5, 3) := by decide +kernel
theorem dX11_alter_34 : decode cX11_alter 34 = .ok (.iconst 0, 1) := by decide +kernel
theorem dX11_alter_35 : decode cX11_alter 35 = .ok (.ireturn, 1) := by decide +kernel
theorem dX11_alter_36 : decode cX11_alter 36 = .ok (.aload_n 0, 1) := by decide +kernel
theorem dX11_alter_37 : decode cX11_alter 37 = .ok (.getfield 59, 3) := by decide +kernel
theorem dX11_alter_40 : decode cX11_alter 40 = .ok (.getfield 248, 3) := by decide +kernel
theorem dX11_alter_43 : decode cX11_alter 43 = .ok (.iload_n 1, 1) := by decide +kernel
theorem dX11_alter_44 : decode cX11_alter 44 = .ok (.iconst 5, 1) := by decide +kernel
theorem dX11_alter_45 : decode cX11_alter 45 = .ok (.imul, 1) := by decide +kernel
theorem dX11_alter_46 : decode cX11_alter 46 = .ok (.iload_n 2, 1) := by decide +kernel
theorem dX11_alter_47 : decode cX11_alter 47 = .ok (.iadd, 1) := by decide +kernel
theorem dX11_alter_48 : decode cX11_alter 48 = .ok (.dup2, 1) := by decide +kernel
theorem dX11_alter_49 : decode cX11_alter 49 = .ok (.laload, 1) := by decide +kernel
theorem dX11_alter_50 : decode cX11_alter 50 = .ok (.lload_n 3, 1) := by decide +kernel
theorem dX11_alter_51 : decode cX11_alter 51 = .ok (.lxor, 1) := by decide +kernel
theorem dX11_alter_52 : decode cX11_alter 52 = .ok (.lastore, 1) := by decide +kernel
theorem dX11_alter_53 : decode cX11_alter 53 = .ok (.iconst 1, 1) := by decide +kernel
theorem dX11_alter_54 : decode cX11_alter 54 = .ok (.ireturn, 1) := by decide +kernel
theorem dX11_check_0 : decode cX11_check 0 = .ok (.aload_n 0, 1) := by decide +kernel
theorem dX11_check_1 : decode cX11_check 1 = .ok (.getfield 59, 3) := by decide +kernel
theorem dX11_check_4 : decode cX11_check 4 = .ok (.getfield 245, 3) := by decide +kernel
theorem dX11_check_7 : decode cX11_check 7 = .ok (.invokestatic 142, 3) := by decide +kernel
theorem dX11_check_10 : decode cX11_check 10 = .ok (.ifCond .eq 12, 3) := by decide +kernel
theorem dX11_check_13 : decode cX11_check 13 = .ok (.iload_n 1, 1) := by decide +kernel
theorem dX11_check_14 : decode cX11_check 14 = .ok (.ifCond .lt 8, 3) := by decide +kernel
theorem dX11_check_17 : decode cX11_check 17 = .ok (.iload_n 1, 1) := by decide +kernel
theorem dX11_check_18 : decode cX11_check 18 = .ok (.iconst 2, 1) := by decide +kernel
theorem dX11_check_19 : decode cX11_check 19 = .ok (.if_icmp .le 5, 3) := by decide +kernel
theorem dX11_check_22 : decode cX11_check 22 = .ok (.iconst (-1), 1) := by decide +kernel
theorem dX11_check_23 : decode cX11_check 23 = .ok (.ireturn, 1) := by decide +kernel
theorem dX11_check_24 : decode cX11_check 24 = .ok (.aload_n 0, 1) := by decide +kernel
theorem dX11_check_25 : decode cX11_check 25 = .ok (.getfield 59, 3) := by decide +kernel
theorem dX11_check_28 : decode cX11_check 28 = .ok (.aload_n 0, 1) := by decide +kernel
theorem dX11_check_29 : decode cX11_check 29 = .ok (.getfield 35, 3) := by decide +kernel
theorem dX11_check_32 : decode cX11_check 32 = .ok (.getfield 145, 3) := by decide +kernel
theorem dX11_check_35 : decode cX11_check 35 = .ok (.aload_n 0, 1) := by decide +kernel
theorem dX11_check_36 : decode cX11_check 36 = .ok (.getfield 59, 3) := by decide +kernel
theorem dX11_check_39 : decode cX11_check 39 = .ok (.getfield 245, 3) := by decide +kernel
theorem dX11_check_42 : decode cX11_check 42 = .ok (.aaload, 1) := by decide +kernel
theorem dX11_check_43 : decode cX11_check 43 = .ok (.getfield 238, 3) := by decide +kernel
theorem dX11_check_46 : decode cX11_check 46 = .ok (.invokevirtual 251, 3) := by decide +kernel
theorem dX11_check_49 : decode cX11_check 49 = .ok (.iload_n 1, 1) := by decide +kernel
theorem dX11_check_50 : decode cX11_check 50 = .ok (.ifCond .ne 11, 3) := by decide +kernel
theorem dX11_check_53 : decode cX11_check 53 = .ok (.aload_n 0, 1) := by decide +kernel
theorem dX11_check_54 : decode cX11_check 54 = .ok (.getfield 59, 3) := by decide +kernel
theorem dX11_check_57 : decode cX11_check 57 = .ok (.getfield 255, 3) := by decide +kernel
theorem dX11_check_60 : decode cX11_check 60 = .ok (.ireturn, 1) := by decide +kernel
theorem dX11_check_61 : decode cX11_check 61 = .ok (.aload_n 0, 1) := by decide +kernel
theorem dX11_check_62 : decode cX11_check 62 = .ok (.getfield 59, 3) := by decide +kernel
theorem dX11_check_65 : decode cX11_check 65 = .ok (.getfield 255, 3) := by decide +kernel
theorem dX11_check_68 : decode cX11_check 68 = .ok (.iconst 1, 1) := by decide +kernel
theorem dX11_check_69 : decode cX11_check 69 = .ok (.if_icmp .eq 5, 3) := by decide +kernel
theorem dX11_check_72 : decode cX11_check 72 = .ok (.iconst (-1), 1) := by decide +kernel
theorem dX11_check_73 : decode cX11_check 73 = .ok (.ireturn, 1) := by decide +kernel
theorem dX11_check_74 : decode cX11_check 74 = .ok (.iload_n 1, 1) := by decide +kernel
theorem dX11_check_75 : decode cX11_check 75 = .ok (.iconst 1, 1) := by decide +kernel
theorem dX11_check_76 : decode cX11_check 76 = .ok (.if_icmp .ne 15, 3) := by decide +kernel
theorem dX11_check_79 : decode cX11_check 79 = .ok (.aload_n 0, 1) := by decide +kernel
theorem dX11_check_80 : decode cX11_check 80 = .ok (.getfield 59, 3) := by decide +kernel
theorem dX11_check_83 : decode cX11_check 83 = .ok (.getfield 258, 3) := by decide +kernel
theorem dX11_check_86 : decode cX11_check 86 = .ok (.iconst 5, 1) := by decide +kernel
theorem dX11_check_87 : decode cX11_check 87 = .ok (.idiv, 1) := by decide +kernel
theorem dX11_check_88 : decode cX11_check 88 = .ok (.goto 12, 3) := by decide +kernel
theorem dX11_check_91 : decode cX11_check 91 = .ok (.aload_n 0, 1) := by decide +kernel
theorem dX11_check_92 : decode cX11_check 92 = .ok (.getfield 59, 3) := by decide +kernel
theorem dX11_check_95 : decode cX11_check 95 = .ok (.getfield 258, 3) := by decide +kernel
theorem dX11_check_98 : decode cX11_check 98 = .ok (.iconst 5, 1) := by decide +kernel
theorem dX11_check_99 : decode cX11_check 99 = .ok (.irem, 1) := by decide +kernel
theorem dX11_check_100 : decode cX11_check 100 = .ok (.ireturn, 1) := by decide +kernel
theorem dX11_below_0 : decode cX11_below 0 = .ok (.iload_n 2, 1) := by decide +kernel
theorem dX11_below_1 : decode cX11_below 1 = .ok (.ifCond .lt 18, 3) := by decide +kernel
theorem dX11_below_4 : decode cX11_below 4 = .ok (.iload_n 2, 1) := by decide +kernel
theorem dX11_below_5 : decode cX11_below 5 = .ok (.sipush 400, 3) := by decide +kernel
theorem dX11_below_8 : decode cX11_below 8 = .ok (.if_icmp .gt 11, 3) := by decide +kernel
theorem dX11_below_11 : decode cX11_below 11 = .ok (.aload_n 0, 1) := by decide +kernel
theorem dX11_below_12 : decode cX11_below 12 = .ok (.iload_n 1, 1) := by decide +kernel
theorem dX11_below_13 : decode cX11_below 13 = .ok (.invokevirtual 261, 3) := by decide +kernel
theorem dX11_below_16 : decode cX11_below 16 = .ok (.ifCond .ne 5, 3) := by decide +kernel
theorem dX11_below_19 : decode cX11_below 19 = .ok (.iconst (-1), 1) := by decide +kernel
theorem dX11_below_20 : decode cX11_below 20 = .ok (.ireturn, 1) := by decide +kernel
theorem dX11_below_21 : decode cX11_below 21 = .ok (.aload_n 0, 1) := by decide +kernel
theorem dX11_below_22 : decode cX11_below 22 = .ok (.getfield 73, 3) := by decide +kernel
theorem dX11_below_25 : decode cX11_below 25 = .ok (.iload_n 2, 1) := by decide +kernel
theorem dX11_below_26 : decode cX11_below 26 = .ok (.invokevirtual 264, 3) := by decide +kernel
theorem dX11_below_29 : decode cX11_below 29 = .ok (.ireturn, 1) := by decide +kernel
theorem dX11_tone_0 : decode cX11_tone 0 = .ok (.aload_n 0, 1) := by decide +kernel
theorem dX11_tone_1 : decode cX11_tone 1 = .ok (.iload_n 1, 1) := by decide +kernel
theorem dX11_tone_2 : decode cX11_tone 2 = .ok (.invokevirtual 261, 3) := by decide +kernel
theorem dX11_tone_5 : decode cX11_tone 5 = .ok (.ifCond .eq 14, 3) := by decide +kernel
theorem dX11_tone_8 : decode cX11_tone 8 = .ok (.aload_n 0, 1) := by decide +kernel
theorem dX11_tone_9 : decode cX11_tone 9 = .ok (.getfield 73, 3) := by decide +kernel
theorem dX11_tone_12 : decode cX11_tone 12 = .ok (.iload_n 2, 1) := by decide +kernel
theorem dX11_tone_13 : decode cX11_tone 13 = .ok (.invokevirtual 268, 3) := by decide +kernel
theorem dX11_tone_16 : decode cX11_tone 16 = .ok (.goto 4, 3) := by decide +kernel
theorem dX11_tone_19 : decode cX11_tone 19 = .ok (.iconst (-1), 1) := by decide +kernel
theorem dX11_tone_20 : decode cX11_tone 20 = .ok (.ireturn, 1) := by decide +kernel
theorem dX11_seen_0 : decode cX11_seen 0 = .ok (.iload_n 2, 1) := by decide +kernel
theorem dX11_seen_1 : decode cX11_seen 1 = .ok (.iconst (-1), 1) := by decide +kernel
theorem dX11_seen_2 : decode cX11_seen 2 = .ok (.if_icmp .ne 9, 3) := by decide +kernel
theorem dX11_seen_5 : decode cX11_seen 5 = .ok (.ldc_w 271, 3) := by decide +kernel
theorem dX11_seen_8 : decode cX11_seen 8 = .ok (.goto 6, 3) := by decide +kernel
theorem dX11_seen_11 : decode cX11_seen 11 = .ok (.sipush 400, 3) := by decide +kernel
theorem dX11_seen_14 : decode cX11_seen 14 = .ok (.istore 5, 2) := by decide +kernel
theorem dX11_seen_16 : decode cX11_seen 16 = .ok (.iload_n 1, 1) := by decide +kernel
theorem dX11_seen_17 : decode cX11_seen 17 = .ok (.invokestatic 142, 3) := by decide +kernel
theorem dX11_seen_20 : decode cX11_seen 20 = .ok (.ifCond .eq 26, 3) := by decide +kernel
theorem dX11_seen_23 : decode cX11_seen 23 = .ok (.iload_n 2, 1) := by decide +kernel
theorem dX11_seen_24 : decode cX11_seen 24 = .ok (.iconst (-1), 1) := by decide +kernel
theorem dX11_seen_25 : decode cX11_seen 25 = .ok (.if_icmp .lt 21, 3) := by decide +kernel
theorem dX11_seen_28 : decode cX11_seen 28 = .ok (.iload_n 2, 1) := by decide +kernel
theorem dX11_seen_29 : decode cX11_seen 29 = .ok (.bipush 7, 2) := by decide +kernel
theorem dX11_seen_31 : decode cX11_seen 31 = .ok (.if_icmp .ge 15, 3) := by decide +kernel
theorem dX11_seen_34 : decode cX11_seen 34 = .ok (.aload_n 0, 1) := by decide +kernel
theorem dX11_seen_35 : decode cX11_seen 35 = .ok (.getfield 35, 3) := by decide +kernel
theorem dX11_seen_38 : decode cX11_seen 38 = .ok (.getfield 272, 3) := by decide +kernel
theorem dX11_seen_41 : decode cX11_seen 41 = .ok (.bipush 20, 2) := by decide +kernel
theorem dX11_seen_43 : decode cX11_seen 43 = .ok (.if_icmp .lt 5, 3) := by decide +kernel
theorem dX11_seen_46 : decode cX11_seen 46 = .ok (.iconst (-1), 1) := by decide +kernel
theorem dX11_seen_47 : decode cX11_seen 47 = .ok (.ireturn, 1) := by decide +kernel
theorem dX11_seen_48 : decode cX11_seen 48 = .ok (.iload_n 3, 1) := by decide +kernel
theorem dX11_seen_49 : decode cX11_seen 49 = .ok (.ifCond .lt 16, 3) := by decide +kernel
theorem dX11_seen_52 : decode cX11_seen 52 = .ok (.iload_n 3, 1) := by decide +kernel
theorem dX11_seen_53 : decode cX11_seen 53 = .ok (.iload 4, 2) := by decide +kernel
theorem dX11_seen_55 : decode cX11_seen 55 = .ok (.if_icmp .gt 10, 3) := by decide +kernel
theorem dX11_seen_58 : decode cX11_seen 58 = .ok (.iload 4, 2) := by decide +kernel
theorem dX11_seen_60 : decode cX11_seen 60 = .ok (.iload 5, 2) := by decide +kernel
theorem dX11_seen_62 : decode cX11_seen 62 = .ok (.if_icmp .le 5, 3) := by decide +kernel
theorem dX11_seen_65 : decode cX11_seen 65 = .ok (.iconst (-1), 1) := by decide +kernel
theorem dX11_seen_66 : decode cX11_seen 66 = .ok (.ireturn, 1) := by decide +kernel
theorem dX11_seen_67 : decode cX11_seen 67 = .ok (.aload_n 0, 1) := by decide +kernel
theorem dX11_seen_68 : decode cX11_seen 68 = .ok (.getfield 52, 3) := by decide +kernel
theorem dX11_seen_71 : decode cX11_seen 71 = .ok (.getfield 274, 3) := by decide +kernel
theorem dX11_seen_74 : decode cX11_seen 74 = .ok (.aload_n 0, 1) := by decide +kernel
theorem dX11_seen_75 : decode cX11_seen 75 = .ok (.getfield 35, 3) := by decide +kernel
theorem dX11_seen_78 : decode cX11_seen 78 = .ok (.getfield 272, 3) := by decide +kernel
theorem dX11_seen_81 : decode cX11_seen 81 = .ok (.iload_n 1, 1) := by decide +kernel
theorem dX11_seen_82 : decode cX11_seen 82 = .ok (.iastore, 1) := by decide +kernel
theorem dX11_seen_83 : decode cX11_seen 83 = .ok (.aload_n 0, 1) := by decide +kernel
theorem dX11_seen_84 : decode cX11_seen 84 = .ok (.getfield 52, 3) := by decide +kernel
theorem dX11_seen_87 : decode cX11_seen 87 = .ok (.getfield 276, 3) := by decide +kernel
theorem dX11_seen_90 : decode cX11_seen 90 = .ok (.aload_n 0, 1) := by decide +kernel
theorem dX11_seen_91 : decode cX11_seen 91 = .ok (.getfield 35, 3) := by decide +kernel
theorem dX11_seen_94 : decode cX11_seen 94 = .ok (.getfield 272, 3) := by decide +kernel
theorem dX11_seen_97 : decode cX11_seen 97 = .ok (.iload_n 2, 1) := by decide +kernel
theorem dX11_seen_98 : decode cX11_seen 98 = .ok (.iastore, 1) := by decide +kernel
theorem dX11_seen_99 : decode cX11_seen 99 = .ok (.aload_n 0, 1) := by decide +kernel
theorem dX11_seen_100 : decode cX11_seen 100 = .ok (.getfield 52, 3) := by decide +kernel
theorem dX11_seen_103 : decode cX11_seen 103 = .ok (.getfield 278, 3) := by decide +kernel
theorem dX11_seen_106 : decode cX11_seen 106 = .ok (.aload_n 0, 1) := by decide +kernel
theorem dX11_seen_107 : decode cX11_seen 107 = .ok (.getfield 35, 3) := by decide +kernel
theorem dX11_seen_110 : decode cX11_seen 110 = .ok (.getfield 272, 3) := by decide +kernel
theorem dX11_seen_113 : decode cX11_seen 113 = .ok (.iload_n 3, 1) := by decide +kernel
theorem dX11_seen_114 : decode cX11_seen 114 = .ok (.iastore, 1) := by decide +kernel
theorem dX11_seen_115 : decode cX11_seen 115 = .ok (.aload_n 0, 1) := by decide +kernel
theorem dX11_seen_116 : decode cX11_seen 116 = .ok (.getfield 52, 3) := by decide +kernel
theorem dX11_seen_119 : decode cX11_seen 119 = .ok (.getfield 281, 3) := by decide +kernel
theorem dX11_seen_122 : decode cX11_seen 122 = .ok (.aload_n 0, 1) := by decide +kernel
theorem dX11_seen_123 : decode cX11_seen 123 = .ok (.getfield 35, 3) := by decide +kernel
theorem dX11_seen_126 : decode cX11_seen 126 = .ok (.getfield 272, 3) := by decide +kernel
theorem dX11_seen_129 : decode cX11_seen 129 = .ok (.iload 4, 2) := by decide +kernel
theorem dX11_seen_131 : decode cX11_seen 131 = .ok (.iastore, 1) := by decide +kernel
theorem dX11_seen_132 : decode cX11_seen 132 = .ok (.aload_n 0, 1) := by decide +kernel
theorem dX11_seen_133 : decode cX11_seen 133 = .ok (.getfield 35, 3) := by decide +kernel
theorem dX11_seen_136 : decode cX11_seen 136 = .ok (.dup, 1) := by decide +kernel
theorem dX11_seen_137 : decode cX11_seen 137 = .ok (.getfield 272, 3) := by decide +kernel
theorem dX11_seen_140 : decode cX11_seen 140 = .ok (.iconst 1, 1) := by decide +kernel
theorem dX11_seen_141 : decode cX11_seen 141 = .ok (.iadd, 1) := by decide +kernel
theorem dX11_seen_142 : decode cX11_seen 142 = .ok (.putfield 272, 3) := by decide +kernel
theorem dX11_seen_145 : decode cX11_seen 145 = .ok (.aload_n 0, 1) := by decide +kernel
theorem dX11_seen_146 : decode cX11_seen 146 = .ok (.getfield 35, 3) := by decide +kernel
theorem dX11_seen_149 : decode cX11_seen 149 = .ok (.getfield 272, 3) := by decide +kernel
theorem dX11_seen_152 : decode cX11_seen 152 = .ok (.ireturn, 1) := by decide +kernel
theorem dX11_fits_0 : decode cX11_fits 0 = .ok (.iload_n 1, 1) := by decide +kernel
theorem dX11_fits_1 : decode cX11_fits 1 = .ok (.invokestatic 142, 3) := by decide +kernel
theorem dX11_fits_4 : decode cX11_fits 4 = .ok (.ifCond .eq 8, 3) := by decide +kernel
theorem dX11_fits_7 : decode cX11_fits 7 = .ok (.iload_n 2, 1) := by decide +kernel
theorem dX11_fits_8 : decode cX11_fits 8 = .ok (.iconst (-1), 1) := by decide +kernel
theorem dX11_fits_9 : decode cX11_fits 9 = .ok (.if_icmp .ge 5, 3) := by decide +kernel
theorem dX11_fits_12 : decode cX11_fits 12 = .ok (.iconst (-1), 1) := by decide +kernel
theorem dX11_fits_13 : decode cX11_fits 13 = .ok (.ireturn, 1) := by decide +kernel
theorem dX11_fits_14 : decode cX11_fits 14 = .ok (.aload_n 0, 1) := by decide +kernel
theorem dX11_fits_15 : decode cX11_fits 15 = .ok (.iload_n 1, 1) := by decide +kernel
theorem dX11_fits_16 : decode cX11_fits 16 = .ok (.invokevirtual 284, 3) := by decide +kernel
theorem dX11_fits_19 : decode cX11_fits 19 = .ok (.istore_n 3, 1) := by decide +kernel
theorem dX11_fits_20 : decode cX11_fits 20 = .ok (.iconst 0, 1) := by decide +kernel
theorem dX11_fits_21 : decode cX11_fits 21 = .ok (.istore 4, 2) := by decide +kernel
theorem dX11_fits_23 : decode cX11_fits 23 = .ok (.iconst 1, 1) := by decide +kernel
theorem dX11_fits_24 : decode cX11_fits 24 = .ok (.istore 5, 2) := by decide +kernel
theorem dX11_fits_26 : decode cX11_fits 26 = .ok (.iload 5, 2) := by decide +kernel
theorem dX11_fits_28 : decode cX11_fits 28 = .ok (.sipush 200, 3) := by decide +kernel
theorem dX11_fits_31 : decode cX11_fits 31 = .ok (.if_icmp .gt 32, 3) := by decide +kernel
theorem dX11_fits_34 : decode cX11_fits 34 = .ok (.aload_n 0, 1) := by decide +kernel
theorem dX11_fits_35 : decode cX11_fits 35 = .ok (.iload_n 1, 1) := by decide +kernel
theorem dX11_fits_36 : decode cX11_fits 36 = .ok (.iload 5, 2) := by decide +kernel
theorem dX11_fits_38 : decode cX11_fits 38 = .ok (.iload_n 3, 1) := by decide +kernel
theorem dX11_fits_39 : decode cX11_fits 39 = .ok (.invokevirtual 287, 3) := by decide +kernel
theorem dX11_fits_42 : decode cX11_fits 42 = .ok (.ifCond .eq 15, 3) := by decide +kernel
theorem dX11_fits_45 : decode cX11_fits 45 = .ok (.iload 4, 2) := by decide +kernel
theorem dX11_fits_47 : decode cX11_fits 47 = .ok (.iload_n 2, 1) := by decide +kernel
theorem dX11_fits_48 : decode cX11_fits 48 = .ok (.if_icmp .ne 6, 3) := by decide +kernel
theorem dX11_fits_51 : decode cX11_fits 51 = .ok (.iload 5, 2) := by decide +kernel
theorem dX11_fits_53 : decode cX11_fits 53 = .ok (.ireturn, 1) := by decide +kernel
theorem dX11_fits_54 : decode cX11_fits 54 = .ok (.iinc 4 1, 3) := by decide +kernel
theorem dX11_fits_57 : decode cX11_fits 57 = .ok (.iinc 5 1, 3) := by decide +kernel
theorem dX11_fits_60 : decode cX11_fits 60 = .ok (.goto (-34), 3) := by decide +kernel
theorem dX11_fits_63 : decode cX11_fits 63 = .ok (.iload_n 2, 1) := by decide +kernel
theorem dX11_fits_64 : decode cX11_fits 64 = .ok (.iconst (-1), 1) := by decide +kernel
theorem dX11_fits_65 : decode cX11_fits 65 = .ok (.if_icmp .ne 8, 3) := by decide +kernel
theorem dX11_fits_68 : decode cX11_fits 68 = .ok (.iload 4, 2) := by decide +kernel
theorem dX11_fits_70 : decode cX11_fits 70 = .ok (.goto 4, 3) := by decide +kernel
theorem dX11_fits_73 : decode cX11_fits 73 = .ok (.iconst (-1), 1) := by decide +kernel
theorem dX11_fits_74 : decode cX11_fits 74 = .ok (.ireturn, 1) := by decide +kernel
theorem dX11_image_0 : decode cX11_image 0 = .ok (.aload_n 0, 1) := by decide +kernel
theorem dX11_image_1 : decode cX11_image 1 = .ok (.getfield 39, 3) := by decide +kernel
theorem dX11_image_4 : decode cX11_image 4 = .ok (.aload_n 0, 1) := by decide +kernel
theorem dX11_image_5 : decode cX11_image 5 = .ok (.getfield 35, 3) := by decide +kernel
theorem dX11_image_8 : decode cX11_image 8 = .ok (.invokevirtual 291, 3) := by decide +kernel
theorem dX11_image_11 : decode cX11_image 11 = .ok (.aload_n 0, 1) := by decide +kernel
theorem dX11_image_12 : decode cX11_image 12 = .ok (.getfield 35, 3) := by decide +kernel
theorem dX11_image_15 : decode cX11_image 15 = .ok (.getfield 93, 3) := by decide +kernel
theorem dX11_image_18 : decode cX11_image 18 = .ok (.ireturn, 1) := by decide +kernel
theorem dX11_back_0 : decode cX11_back 0 = .ok (.aload_n 0, 1) := by decide +kernel
theorem dX11_back_1 : decode cX11_back 1 = .ok (.getfield 35, 3) := by decide +kernel
theorem dX11_back_4 : decode cX11_back 4 = .ok (.aload_n 0, 1) := by decide +kernel
theorem dX11_back_5 : decode cX11_back 5 = .ok (.getfield 39, 3) := by decide +kernel
theorem dX11_back_8 : decode cX11_back 8 = .ok (.invokevirtual 291, 3) := by decide +kernel
theorem dX11_back_11 : decode cX11_back 11 = .ok (.aload_n 0, 1) := by decide +kernel
theorem dX11_back_12 : decode cX11_back 12 = .ok (.getfield 35, 3) := by decide +kernel
theorem dX11_back_15 : decode cX11_back 15 = .ok (.getfield 93, 3) := by decide +kernel
theorem dX11_back_18 : decode cX11_back 18 = .ok (.ireturn, 1) := by decide +kernel
theorem dX11_about_0 : decode cX11_about 0 = .ok (.iload_n 1, 1) := by decide +kernel
theorem dX11_about_1 : decode cX11_about 1 = .ok (.tableswitch 214 0 21 #[103, 111, 119, 119, 134, 142, 150, 158, 166, 214, 182, 182, 214, 214, 214, 214, 214, 214, 214, 214, 198, 198], 103) := by decide +kernel
theorem dX11_about_104 : decode cX11_about 104 = .ok (.aload_n 0, 1) := by decide +kernel
theorem dX11_about_105 : decode cX11_about 105 = .ok (.getfield 35, 3) := by decide +kernel
theorem dX11_about_108 : decode cX11_about 108 = .ok (.getfield 93, 3) := by decide +kernel
theorem dX11_about_111 : decode cX11_about 111 = .ok (.ireturn, 1) := by decide +kernel
theorem dX11_about_112 : decode cX11_about 112 = .ok (.aload_n 0, 1) := by decide +kernel
theorem dX11_about_113 : decode cX11_about 113 = .ok (.getfield 35, 3) := by decide +kernel
theorem dX11_about_116 : decode cX11_about 116 = .ok (.getfield 104, 3) := by decide +kernel
theorem dX11_about_119 : decode cX11_about 119 = .ok (.ireturn, 1) := by decide +kernel
theorem dX11_about_120 : decode cX11_about 120 = .ok (.aload_n 0, 1) := by decide +kernel
theorem dX11_about_121 : decode cX11_about 121 = .ok (.getfield 35, 3) := by decide +kernel
theorem dX11_about_124 : decode cX11_about 124 = .ok (.getfield 145, 3) := by decide +kernel
theorem dX11_about_127 : decode cX11_about 127 = .ok (.iload_n 1, 1) := by decide +kernel
theorem dX11_about_128 : decode cX11_about 128 = .ok (.iconst 2, 1) := by decide +kernel
theorem dX11_about_129 : decode cX11_about 129 = .ok (.isub, 1) := by decide +kernel
theorem dX11_about_130 : decode cX11_about 130 = .ok (.aaload, 1) := by decide +kernel
theorem dX11_about_131 : decode cX11_about 131 = .ok (.getfield 149, 3) := by decide +kernel
theorem dX11_about_134 : decode cX11_about 134 = .ok (.ireturn, 1) := by decide +kernel
theorem dX11_about_135 : decode cX11_about 135 = .ok (.aload_n 0, 1) := by decide +kernel
theorem dX11_about_136 : decode cX11_about 136 = .ok (.getfield 35, 3) := by decide +kernel
theorem dX11_about_139 : decode cX11_about 139 = .ok (.getfield 294, 3) := by decide +kernel
theorem dX11_about_142 : decode cX11_about 142 = .ok (.ireturn, 1) := by decide +kernel
theorem dX11_about_143 : decode cX11_about 143 = .ok (.aload_n 0, 1) := by decide +kernel
theorem dX11_about_144 : decode cX11_about 144 = .ok (.getfield 35, 3) := by decide +kernel
theorem dX11_about_147 : decode cX11_about 147 = .ok (.getfield 229, 3) := by decide +kernel
theorem dX11_about_150 : decode cX11_about 150 = .ok (.ireturn, 1) := by decide +kernel
theorem dX11_about_151 : decode cX11_about 151 = .ok (.aload_n 0, 1) := by decide +kernel
theorem dX11_about_152 : decode cX11_about 152 = .ok (.getfield 35, 3) := by decide +kernel
theorem dX11_about_155 : decode cX11_about 155 = .ok (.getfield 272, 3) := by decide +kernel
theorem dX11_about_158 : decode cX11_about 158 = .ok (.ireturn, 1) := by decide +kernel
theorem dX11_about_159 : decode cX11_about 159 = .ok (.aload_n 0, 1) := by decide +kernel
theorem dX11_about_160 : decode cX11_about 160 = .ok (.getfield 12, 3) := by decide +kernel
theorem dX11_about_163 : decode cX11_about 163 = .ok (.getfield 85, 3) := by decide +kernel
theorem dX11_about_166 : decode cX11_about 166 = .ok (.ireturn, 1) := by decide +kernel
theorem dX11_about_167 : decode cX11_about 167 = .ok (.aload_n 0, 1) := by decide +kernel
theorem dX11_about_168 : decode cX11_about 168 = .ok (.getfield 27, 3) := by decide +kernel
theorem dX11_about_171 : decode cX11_about 171 = .ok (.aload_n 0, 1) := by decide +kernel
theorem dX11_about_172 : decode cX11_about 172 = .ok (.getfield 35, 3) := by decide +kernel
theorem dX11_about_175 : decode cX11_about 175 = .ok (.getfield 93, 3) := by decide +kernel
theorem dX11_about_178 : decode cX11_about 178 = .ok (.aaload, 1) := by decide +kernel
theorem dX11_about_179 : decode cX11_about 179 = .ok (.getfield 297, 3) := by decide +kernel
theorem dX11_about_182 : decode cX11_about 182 = .ok (.ireturn, 1) := by decide +kernel
theorem dX11_about_183 : decode cX11_about 183 = .ok (.aload_n 0, 1) := by decide +kernel
theorem dX11_about_184 : decode cX11_about 184 = .ok (.getfield 35, 3) := by decide +kernel
theorem dX11_about_187 : decode cX11_about 187 = .ok (.getfield 145, 3) := by decide +kernel
theorem dX11_about_190 : decode cX11_about 190 = .ok (.iload_n 1, 1) := by decide +kernel
theorem dX11_about_191 : decode cX11_about 191 = .ok (.bipush 10, 2) := by decide +kernel
theorem dX11_about_193 : decode cX11_about 193 = .ok (.isub, 1) := by decide +kernel
theorem dX11_about_194 : decode cX11_about 194 = .ok (.aaload, 1) := by decide +kernel
theorem dX11_about_195 : decode cX11_about 195 = .ok (.getfield 167, 3) := by decide +kernel
theorem dX11_about_198 : decode cX11_about 198 = .ok (.ireturn, 1) := by decide +kernel
theorem dX11_about_199 : decode cX11_about 199 = .ok (.aload_n 0, 1) := by decide +kernel
theorem dX11_about_200 : decode cX11_about 200 = .ok (.getfield 35, 3) := by decide +kernel
theorem dX11_about_203 : decode cX11_about 203 = .ok (.getfield 145, 3) := by decide +kernel
theorem dX11_about_206 : decode cX11_about 206 = .ok (.iload_n 1, 1) := by decide +kernel
theorem dX11_about_207 : decode cX11_about 207 = .ok (.bipush 20, 2) := by decide +kernel
theorem dX11_about_209 : decode cX11_about 209 = .ok (.isub, 1) := by decide +kernel
theorem dX11_about_210 : decode cX11_about 210 = .ok (.aaload, 1) := by decide +kernel
theorem dX11_about_211 : decode cX11_about 211 = .ok (.getfield 170, 3) := by decide +kernel
theorem dX11_about_214 : decode cX11_about 214 = .ok (.ireturn, 1) := by decide +kernel
theorem dX11_about_215 : decode cX11_about 215 = .ok (.iconst (-1), 1) := by decide +kernel
theorem dX11_about_216 : decode cX11_about 216 = .ok (.ireturn, 1) := by decide +kernel
theorem dX11_isStar_0 : decode cX11_isStar 0 = .ok (.iload_n 0, 1) := by decide +kernel
theorem dX11_isStar_1 : decode cX11_isStar 1 = .ok (.ifCond .lt 12, 3) := by decide +kernel
theorem dX11_isStar_4 : decode cX11_isStar 4 = .ok (.iload_n 0, 1) := by decide +kernel
theorem dX11_isStar_5 : decode cX11_isStar 5 = .ok (.iconst 2, 1) := by decide +kernel
theorem dX11_isStar_6 : decode cX11_isStar 6 = .ok (.if_icmp .ge 7, 3) := by decide +kernel
theorem dX11_isStar_9 : decode cX11_isStar 9 = .ok (.iconst 1, 1) := by decide +kernel
theorem dX11_isStar_10 : decode cX11_isStar 10 = .ok (.goto 4, 3) := by decide +kernel
theorem dX11_isStar_13 : decode cX11_isStar 13 = .ok (.iconst 0, 1) := by decide +kernel
theorem dX11_isStar_14 : decode cX11_isStar 14 = .ok (.ireturn, 1) := by decide +kernel
theorem dX11_isKind_0 : decode cX11_isKind 0 = .ok (.iload_n 0, 1) := by decide +kernel
theorem dX11_isKind_1 : decode cX11_isKind 1 = .ok (.ifCond .lt 13, 3) := by decide +kernel
theorem dX11_isKind_4 : decode cX11_isKind 4 = .ok (.iload_n 0, 1) := by decide +kernel
theorem dX11_isKind_5 : decode cX11_isKind 5 = .ok (.bipush 6, 2) := by decide +kernel
theorem dX11_isKind_7 : decode cX11_isKind 7 = .ok (.if_icmp .ge 7, 3) := by decide +kernel
theorem dX11_isKind_10 : decode cX11_isKind 10 = .ok (.iconst 1, 1) := by decide +kernel
theorem dX11_isKind_11 : decode cX11_isKind 11 = .ok (.goto 4, 3) := by decide +kernel
theorem dX11_isKind_14 : decode cX11_isKind 14 = .ok (.iconst 0, 1) := by decide +kernel
theorem dX11_isKind_15 : decode cX11_isKind 15 = .ok (.ireturn, 1) := by decide +kernel
theorem dX11_isChain_0 : decode cX11_isChain 0 = .ok (.iload_n 0, 1) := by decide +kernel
theorem dX11_isChain_1 : decode cX11_isChain 1 = .ok (.ifCond .lt 12, 3) := by decide +kernel
theorem dX11_isChain_4 : decode cX11_isChain 4 = .ok (.iload_n 0, 1) := by decide +kernel
theorem dX11_isChain_5 : decode cX11_isChain 5 = .ok (.iconst 5, 1) := by decide +kernel
theorem dX11_isChain_6 : decode cX11_isChain 6 = .ok (.if_icmp .ge 7, 3) := by decide +kernel
theorem dX11_isChain_9 : decode cX11_isChain 9 = .ok (.iconst 1, 1) := by decide +kernel
theorem dX11_isChain_10 : decode cX11_isChain 10 = .ok (.goto 4, 3) := by decide +kernel
theorem dX11_isChain_13 : decode cX11_isChain 13 = .ok (.iconst 0, 1) := by decide +kernel
theorem dX11_isChain_14 : decode cX11_isChain 14 = .ok (.ireturn, 1) := by decide +kernel
theorem dX11_isShell_0 : decode cX11_isShell 0 = .ok (.iload_n 1, 1) := by decide +kernel
theorem dX11_isShell_1 : decode cX11_isShell 1 = .ok (.invokestatic 142, 3) := by decide +kernel
theorem dX11_isShell_4 : decode cX11_isShell 4 = .ok (.ifCond .eq 27, 3) := by decide +kernel
theorem dX11_isShell_7 : decode cX11_isShell 7 = .ok (.iload_n 2, 1) := by decide +kernel
theorem dX11_isShell_8 : decode cX11_isShell 8 = .ok (.ifCond .lt 23, 3) := by decide +kernel
theorem dX11_isShell_11 : decode cX11_isShell 11 = .ok (.iload_n 2, 1) := by decide +kernel
theorem dX11_isShell_12 : decode cX11_isShell 12 = .ok (.aload_n 0, 1) := by decide +kernel
theorem dX11_isShell_13 : decode cX11_isShell 13 = .ok (.getfield 35, 3) := by decide +kernel
theorem dX11_isShell_16 : decode cX11_isShell 16 = .ok (.getfield 145, 3) := by decide +kernel
theorem dX11_isShell_19 : decode cX11_isShell 19 = .ok (.iload_n 1, 1) := by decide +kernel
theorem dX11_isShell_20 : decode cX11_isShell 20 = .ok (.aaload, 1) := by decide +kernel
theorem dX11_isShell_21 : decode cX11_isShell 21 = .ok (.getfield 149, 3) := by decide +kernel
theorem dX11_isShell_24 : decode cX11_isShell 24 = .ok (.if_icmp .ge 7, 3) := by decide +kernel
theorem dX11_isShell_27 : decode cX11_isShell 27 = .ok (.iconst 1, 1) := by decide +kernel
theorem dX11_isShell_28 : decode cX11_isShell 28 = .ok (.goto 4, 3) := by decide +kernel
theorem dX11_isShell_31 : decode cX11_isShell 31 = .ok (.iconst 0, 1) := by decide +kernel
theorem dX11_isShell_32 : decode cX11_isShell 32 = .ok (.ireturn, 1) := by decide +kernel
theorem dX11_cut_0 : decode cX11_cut 0 = .ok (.iload_n 1, 1) := by decide +kernel
theorem dX11_cut_1 : decode cX11_cut 1 = .ok (.ifCond .le 9, 3) := by decide +kernel
theorem dX11_cut_4 : decode cX11_cut 4 = .ok (.iload_n 0, 1) := by decide +kernel
theorem dX11_cut_5 : decode cX11_cut 5 = .ok (.iload_n 1, 1) := by decide +kernel
theorem dX11_cut_6 : decode cX11_cut 6 = .ok (.idiv, 1) := by decide +kernel
theorem dX11_cut_7 : decode cX11_cut 7 = .ok (.goto 4, 3) := by decide +kernel
theorem dX11_cut_10 : decode cX11_cut 10 = .ok (.iconst 0, 1) := by decide +kernel
theorem dX11_cut_11 : decode cX11_cut 11 = .ok (.ireturn, 1) := by decide +kernel
theorem dX11_lawsNow_0 : decode cX11_lawsNow 0 = .ok (.aload_n 0, 1) := by decide +kernel
theorem dX11_lawsNow_1 : decode cX11_lawsNow 1 = .ok (.getfield 27, 3) := by decide +kernel
theorem dX11_lawsNow_4 : decode cX11_lawsNow 4 = .ok (.aload_n 0, 1) := by decide +kernel
theorem dX11_lawsNow_5 : decode cX11_lawsNow 5 = .ok (.getfield 35, 3) := by decide +kernel
theorem dX11_lawsNow_8 : decode cX11_lawsNow 8 = .ok (.getfield 104, 3) := by decide +kernel
theorem dX11_lawsNow_11 : decode cX11_lawsNow 11 = .ok (.aaload, 1) := by decide +kernel
theorem dX11_lawsNow_12 : decode cX11_lawsNow 12 = .ok (.areturn, 1) := by decide +kernel
theorem dX11_enter_0 : decode cX11_enter 0 = .ok (.aload_n 0, 1) := by decide +kernel
theorem dX11_enter_1 : decode cX11_enter 1 = .ok (.getfield 66, 3) := by decide +kernel
theorem dX11_enter_4 : decode cX11_enter 4 = .ok (.aload_n 0, 1) := by decide +kernel
theorem dX11_enter_5 : decode cX11_enter 5 = .ok (.getfield 35, 3) := by decide +kernel
theorem dX11_enter_8 : decode cX11_enter 8 = .ok (.getfield 145, 3) := by decide +kernel
theorem dX11_enter_11 : decode cX11_enter 11 = .ok (.iload_n 1, 1) := by decide +kernel
theorem dX11_enter_12 : decode cX11_enter 12 = .ok (.aaload, 1) := by decide +kernel
theorem dX11_enter_13 : decode cX11_enter 13 = .ok (.aload_n 0, 1) := by decide +kernel
theorem dX11_enter_14 : decode cX11_enter 14 = .ok (.invokevirtual 121, 3) := by decide +kernel
theorem dX11_enter_17 : decode cX11_enter 17 = .ok (.aload_n 0, 1) := by decide +kernel
theorem dX11_enter_18 : decode cX11_enter 18 = .ok (.getfield 35, 3) := by decide +kernel
theorem dX11_enter_21 : decode cX11_enter 21 = .ok (.getfield 145, 3) := by decide +kernel
theorem dX11_enter_24 : decode cX11_enter 24 = .ok (.iload_n 1, 1) := by decide +kernel
theorem dX11_enter_25 : decode cX11_enter 25 = .ok (.aaload, 1) := by decide +kernel
theorem dX11_enter_26 : decode cX11_enter 26 = .ok (.getfield 167, 3) := by decide +kernel
theorem dX11_enter_29 : decode cX11_enter 29 = .ok (.invokevirtual 300, 3) := by decide +kernel
theorem dX11_enter_32 : decode cX11_enter 32 = .ok (.return_, 1) := by decide +kernel
theorem dX11_hear_0 : decode cX11_hear 0 = .ok (.iload_n 1, 1) := by decide +kernel
theorem dX11_hear_1 : decode cX11_hear 1 = .ok (.invokestatic 142, 3) := by decide +kernel
theorem dX11_hear_4 : decode cX11_hear 4 = .ok (.ifCond .ne 5, 3) := by decide +kernel
theorem dX11_hear_7 : decode cX11_hear 7 = .ok (.iconst 0, 1) := by decide +kernel
theorem dX11_hear_8 : decode cX11_hear 8 = .ok (.ireturn, 1) := by decide +kernel
theorem dX11_hear_9 : decode cX11_hear 9 = .ok (.aload_n 0, 1) := by decide +kernel
theorem dX11_hear_10 : decode cX11_hear 10 = .ok (.iload_n 1, 1) := by decide +kernel
theorem dX11_hear_11 : decode cX11_hear 11 = .ok (.invokevirtual 173, 3) := by decide +kernel
theorem dX11_hear_14 : decode cX11_hear 14 = .ok (.aload_n 0, 1) := by decide +kernel
theorem dX11_hear_15 : decode cX11_hear 15 = .ok (.getfield 66, 3) := by decide +kernel
theorem dX11_hear_18 : decode cX11_hear 18 = .ok (.getfield 223, 3) := by decide +kernel
theorem dX11_hear_21 : decode cX11_hear 21 = .ok (.ifCond .le 21, 3) := by decide +kernel
theorem dX11_hear_24 : decode cX11_hear 24 = .ok (.aload_n 0, 1) := by decide +kernel
theorem dX11_hear_25 : decode cX11_hear 25 = .ok (.getfield 73, 3) := by decide +kernel
theorem dX11_hear_28 : decode cX11_hear 28 = .ok (.aload_n 0, 1) := by decide +kernel
theorem dX11_hear_29 : decode cX11_hear 29 = .ok (.getfield 66, 3) := by decide +kernel
theorem dX11_hear_32 : decode cX11_hear 32 = .ok (.invokevirtual 304, 3) := by decide +kernel
theorem dX11_hear_35 : decode cX11_hear 35 = .ok (.ifCond .eq 7, 3) := by decide +kernel
theorem dX11_hear_38 : decode cX11_hear 38 = .ok (.iconst 1, 1) := by decide +kernel
theorem dX11_hear_39 : decode cX11_hear 39 = .ok (.goto 4, 3) := by decide +kernel
theorem dX11_hear_42 : decode cX11_hear 42 = .ok (.iconst 0, 1) := by decide +kernel
theorem dX11_hear_43 : decode cX11_hear 43 = .ok (.ireturn, 1) := by decide +kernel
theorem dX11_sawLight_0 : decode cX11_sawLight 0 = .ok (.iconst 0, 1) := by decide +kernel
theorem dX11_sawLight_1 : decode cX11_sawLight 1 = .ok (.istore_n 2, 1) := by decide +kernel
theorem dX11_sawLight_2 : decode cX11_sawLight 2 = .ok (.iload_n 2, 1) := by decide +kernel
theorem dX11_sawLight_3 : decode cX11_sawLight 3 = .ok (.aload_n 0, 1) := by decide +kernel
theorem dX11_sawLight_4 : decode cX11_sawLight 4 = .ok (.getfield 35, 3) := by decide +kernel
theorem dX11_sawLight_7 : decode cX11_sawLight 7 = .ok (.getfield 272, 3) := by decide +kernel
theorem dX11_sawLight_10 : decode cX11_sawLight 10 = .ok (.if_icmp .ge 37, 3) := by decide +kernel
theorem dX11_sawLight_13 : decode cX11_sawLight 13 = .ok (.aload_n 0, 1) := by decide +kernel
theorem dX11_sawLight_14 : decode cX11_sawLight 14 = .ok (.getfield 52, 3) := by decide +kernel
theorem dX11_sawLight_17 : decode cX11_sawLight 17 = .ok (.getfield 274, 3) := by decide +kernel
theorem dX11_sawLight_20 : decode cX11_sawLight 20 = .ok (.iload_n 2, 1) := by decide +kernel
theorem dX11_sawLight_21 : decode cX11_sawLight 21 = .ok (.iaload, 1) := by decide +kernel
theorem dX11_sawLight_22 : decode cX11_sawLight 22 = .ok (.iload_n 1, 1) := by decide +kernel
theorem dX11_sawLight_23 : decode cX11_sawLight 23 = .ok (.if_icmp .ne 18, 3) := by decide +kernel
theorem dX11_sawLight_26 : decode cX11_sawLight 26 = .ok (.aload_n 0, 1) := by decide +kernel
theorem dX11_sawLight_27 : decode cX11_sawLight 27 = .ok (.getfield 52, 3) := by decide +kernel
theorem dX11_sawLight_30 : decode cX11_sawLight 30 = .ok (.getfield 276, 3) := by decide +kernel
theorem dX11_sawLight_33 : decode cX11_sawLight 33 = .ok (.iload_n 2, 1) := by decide +kernel
theorem dX11_sawLight_34 : decode cX11_sawLight 34 = .ok (.iaload, 1) := by decide +kernel
theorem dX11_sawLight_35 : decode cX11_sawLight 35 = .ok (.iconst (-1), 1) := by decide +kernel
theorem dX11_sawLight_36 : decode cX11_sawLight 36 = .ok (.if_icmp .ne 5, 3) := by decide +kernel
theorem dX11_sawLight_39 : decode cX11_sawLight 39 = .ok (.iconst 1, 1) := by decide +kernel
theorem dX11_sawLight_40 : decode cX11_sawLight 40 = .ok (.ireturn, 1) := by decide +kernel
theorem dX11_sawLight_41 : decode cX11_sawLight 41 = .ok (.iinc 2 1, 3) := by decide +kernel
theorem dX11_sawLight_44 : decode cX11_sawLight 44 = .ok (.goto (-42), 3) := by decide +kernel
theorem dX11_sawLight_47 : decode cX11_sawLight 47 = .ok (.iconst 0, 1) := by decide +kernel
theorem dX11_sawLight_48 : decode cX11_sawLight 48 = .ok (.ireturn, 1) := by decide +kernel
theorem dX11_fitsWith_0 : decode cX11_fitsWith 0 = .ok (.aload_n 0, 1) := by decide +kernel
theorem dX11_fitsWith_1 : decode cX11_fitsWith 1 = .ok (.getfield 66, 3) := by decide +kernel
theorem dX11_fitsWith_4 : decode cX11_fitsWith 4 = .ok (.aload_n 0, 1) := by decide +kernel
theorem dX11_fitsWith_5 : decode cX11_fitsWith 5 = .ok (.getfield 35, 3) := by decide +kernel
theorem dX11_fitsWith_8 : decode cX11_fitsWith 8 = .ok (.getfield 145, 3) := by decide +kernel
theorem dX11_fitsWith_11 : decode cX11_fitsWith 11 = .ok (.iload_n 1, 1) := by decide +kernel
theorem dX11_fitsWith_12 : decode cX11_fitsWith 12 = .ok (.aaload, 1) := by decide +kernel
theorem dX11_fitsWith_13 : decode cX11_fitsWith 13 = .ok (.aload_n 0, 1) := by decide +kernel
theorem dX11_fitsWith_14 : decode cX11_fitsWith 14 = .ok (.invokevirtual 121, 3) := by decide +kernel
theorem dX11_fitsWith_17 : decode cX11_fitsWith 17 = .ok (.iload_n 2, 1) := by decide +kernel
theorem dX11_fitsWith_18 : decode cX11_fitsWith 18 = .ok (.invokevirtual 300, 3) := by decide +kernel
theorem dX11_fitsWith_21 : decode cX11_fitsWith 21 = .ok (.aload_n 0, 1) := by decide +kernel
theorem dX11_fitsWith_22 : decode cX11_fitsWith 22 = .ok (.getfield 66, 3) := by decide +kernel
theorem dX11_fitsWith_25 : decode cX11_fitsWith 25 = .ok (.getfield 223, 3) := by decide +kernel
theorem dX11_fitsWith_28 : decode cX11_fitsWith 28 = .ok (.ifCond .ne 5, 3) := by decide +kernel
theorem dX11_fitsWith_31 : decode cX11_fitsWith 31 = .ok (.iconst 0, 1) := by decide +kernel
theorem dX11_fitsWith_32 : decode cX11_fitsWith 32 = .ok (.ireturn, 1) := by decide +kernel
theorem dX11_fitsWith_33 : decode cX11_fitsWith 33 = .ok (.iload_n 3, 1) := by decide +kernel
theorem dX11_fitsWith_34 : decode cX11_fitsWith 34 = .ok (.ifCond .eq 23, 3) := by decide +kernel
theorem dX11_fitsWith_37 : decode cX11_fitsWith 37 = .ok (.aload_n 0, 1) := by decide +kernel
theorem dX11_fitsWith_38 : decode cX11_fitsWith 38 = .ok (.getfield 66, 3) := by decide +kernel
theorem dX11_fitsWith_41 : decode cX11_fitsWith 41 = .ok (.aload_n 0, 1) := by decide +kernel
theorem dX11_fitsWith_42 : decode cX11_fitsWith 42 = .ok (.getfield 35, 3) := by decide +kernel
theorem dX11_fitsWith_45 : decode cX11_fitsWith 45 = .ok (.getfield 145, 3) := by decide +kernel
theorem dX11_fitsWith_48 : decode cX11_fitsWith 48 = .ok (.iload_n 1, 1) := by decide +kernel
theorem dX11_fitsWith_49 : decode cX11_fitsWith 49 = .ok (.aaload, 1) := by decide +kernel
theorem dX11_fitsWith_50 : decode cX11_fitsWith 50 = .ok (.aload_n 0, 1) := by decide +kernel
theorem dX11_fitsWith_51 : decode cX11_fitsWith 51 = .ok (.invokevirtual 121, 3) := by decide +kernel
theorem dX11_fitsWith_54 : decode cX11_fitsWith 54 = .ok (.invokevirtual 189, 3) := by decide +kernel
theorem dX11_fitsWith_57 : decode cX11_fitsWith 57 = .ok (.aload_n 0, 1) := by decide +kernel
theorem dX11_fitsWith_58 : decode cX11_fitsWith 58 = .ok (.getfield 73, 3) := by decide +kernel
theorem dX11_fitsWith_61 : decode cX11_fitsWith 61 = .ok (.aload_n 0, 1) := by decide +kernel
theorem dX11_fitsWith_62 : decode cX11_fitsWith 62 = .ok (.getfield 66, 3) := by decide +kernel
theorem dX11_fitsWith_65 : decode cX11_fitsWith 65 = .ok (.invokevirtual 304, 3) := by decide +kernel
theorem dX11_fitsWith_68 : decode cX11_fitsWith 68 = .ok (.istore 4, 2) := by decide +kernel
theorem dX11_fitsWith_70 : decode cX11_fitsWith 70 = .ok (.iconst 0, 1) := by decide +kernel
theorem dX11_fitsWith_71 : decode cX11_fitsWith 71 = .ok (.istore 5, 2) := by decide +kernel
theorem dX11_fitsWith_73 : decode cX11_fitsWith 73 = .ok (.iload 5, 2) := by decide +kernel
theorem dX11_fitsWith_75 : decode cX11_fitsWith 75 = .ok (.aload_n 0, 1) := by decide +kernel
theorem dX11_fitsWith_76 : decode cX11_fitsWith 76 = .ok (.getfield 35, 3) := by decide +kernel
theorem dX11_fitsWith_79 : decode cX11_fitsWith 79 = .ok (.getfield 272, 3) := by decide +kernel
theorem dX11_fitsWith_82 : decode cX11_fitsWith 82 = .ok (.if_icmp .ge 36, 3) := by decide +kernel
theorem dX11_fitsWith_85 : decode cX11_fitsWith 85 = .ok (.aload_n 0, 1) := by decide +kernel
theorem dX11_fitsWith_86 : decode cX11_fitsWith 86 = .ok (.getfield 52, 3) := by decide +kernel
theorem dX11_fitsWith_89 : decode cX11_fitsWith 89 = .ok (.getfield 274, 3) := by decide +kernel
theorem dX11_fitsWith_92 : decode cX11_fitsWith 92 = .ok (.iload 5, 2) := by decide +kernel
theorem dX11_fitsWith_94 : decode cX11_fitsWith 94 = .ok (.iaload, 1) := by decide +kernel
theorem dX11_fitsWith_95 : decode cX11_fitsWith 95 = .ok (.iload_n 1, 1) := by decide +kernel
theorem dX11_fitsWith_96 : decode cX11_fitsWith 96 = .ok (.if_icmp .ne 16, 3) := by decide +kernel
theorem dX11_fitsWith_99 : decode cX11_fitsWith 99 = .ok (.aload_n 0, 1) := by decide +kernel
theorem dX11_fitsWith_100 : decode cX11_fitsWith 100 = .ok (.iload 5, 2) := by decide +kernel
theorem dX11_fitsWith_102 : decode cX11_fitsWith 102 = .ok (.iload 4, 2) := by decide +kernel
theorem dX11_fitsWith_104 : decode cX11_fitsWith 104 = .ok (.invokevirtual 308, 3) := by decide +kernel
theorem dX11_fitsWith_107 : decode cX11_fitsWith 107 = .ok (.ifCond .ne 5, 3) := by decide +kernel
theorem dX11_fitsWith_110 : decode cX11_fitsWith 110 = .ok (.iconst 0, 1) := by decide +kernel
theorem dX11_fitsWith_111 : decode cX11_fitsWith 111 = .ok (.ireturn, 1) := by decide +kernel
theorem dX11_fitsWith_112 : decode cX11_fitsWith 112 = .ok (.iinc 5 1, 3) := by decide +kernel
theorem dX11_fitsWith_115 : decode cX11_fitsWith 115 = .ok (.goto (-42), 3) := by decide +kernel
theorem dX11_fitsWith_118 : decode cX11_fitsWith 118 = .ok (.iconst 1, 1) := by decide +kernel
theorem dX11_fitsWith_119 : decode cX11_fitsWith 119 = .ok (.ireturn, 1) := by decide +kernel
theorem dX11_agrees_0 : decode cX11_agrees 0 = .ok (.aload_n 0, 1) := by decide +kernel
theorem dX11_agrees_1 : decode cX11_agrees 1 = .ok (.getfield 52, 3) := by decide +kernel
theorem dX11_agrees_4 : decode cX11_agrees 4 = .ok (.getfield 278, 3) := by decide +kernel
theorem dX11_agrees_7 : decode cX11_agrees 7 = .ok (.iload_n 1, 1) := by decide +kernel
theorem dX11_agrees_8 : decode cX11_agrees 8 = .ok (.iaload, 1) := by decide +kernel
theorem dX11_agrees_9 : decode cX11_agrees 9 = .ok (.istore_n 3, 1) := by decide +kernel
theorem dX11_agrees_10 : decode cX11_agrees 10 = .ok (.aload_n 0, 1) := by decide +kernel
theorem dX11_agrees_11 : decode cX11_agrees 11 = .ok (.getfield 52, 3) := by decide +kernel
theorem dX11_agrees_14 : decode cX11_agrees 14 = .ok (.getfield 281, 3) := by decide +kernel
theorem dX11_agrees_17 : decode cX11_agrees 17 = .ok (.iload_n 1, 1) := by decide +kernel
theorem dX11_agrees_18 : decode cX11_agrees 18 = .ok (.iaload, 1) := by decide +kernel
theorem dX11_agrees_19 : decode cX11_agrees 19 = .ok (.istore 4, 2) := by decide +kernel
theorem dX11_agrees_21 : decode cX11_agrees 21 = .ok (.aload_n 0, 1) := by decide +kernel
theorem dX11_agrees_22 : decode cX11_agrees 22 = .ok (.getfield 52, 3) := by decide +kernel
theorem dX11_agrees_25 : decode cX11_agrees 25 = .ok (.getfield 276, 3) := by decide +kernel
theorem dX11_agrees_28 : decode cX11_agrees 28 = .ok (.iload_n 1, 1) := by decide +kernel
theorem dX11_agrees_29 : decode cX11_agrees 29 = .ok (.iaload, 1) := by decide +kernel
theorem dX11_agrees_30 : decode cX11_agrees 30 = .ok (.istore 5, 2) := by decide +kernel
theorem dX11_agrees_32 : decode cX11_agrees 32 = .ok (.iload 5, 2) := by decide +kernel
theorem dX11_agrees_34 : decode cX11_agrees 34 = .ok (.iconst (-1), 1) := by decide +kernel
theorem dX11_agrees_35 : decode cX11_agrees 35 = .ok (.if_icmp .ne 58, 3) := by decide +kernel
theorem dX11_agrees_38 : decode cX11_agrees 38 = .ok (.aload_n 0, 1) := by decide +kernel
theorem dX11_agrees_39 : decode cX11_agrees 39 = .ok (.getfield 66, 3) := by decide +kernel
theorem dX11_agrees_42 : decode cX11_agrees 42 = .ok (.getfield 312, 3) := by decide +kernel
theorem dX11_agrees_45 : decode cX11_agrees 45 = .ok (.iconst 1, 1) := by decide +kernel
theorem dX11_agrees_46 : decode cX11_agrees 46 = .ok (.isub, 1) := by decide +kernel
theorem dX11_agrees_47 : decode cX11_agrees 47 = .ok (.istore 6, 2) := by decide +kernel
theorem dX11_agrees_49 : decode cX11_agrees 49 = .ok (.iload 6, 2) := by decide +kernel
theorem dX11_agrees_51 : decode cX11_agrees 51 = .ok (.ifCond .lt 40, 3) := by decide +kernel
theorem dX11_agrees_54 : decode cX11_agrees 54 = .ok (.aload_n 0, 1) := by decide +kernel
theorem dX11_agrees_55 : decode cX11_agrees 55 = .ok (.getfield 66, 3) := by decide +kernel
theorem dX11_agrees_58 : decode cX11_agrees 58 = .ok (.getfield 220, 3) := by decide +kernel
theorem dX11_agrees_61 : decode cX11_agrees 61 = .ok (.iload 6, 2) := by decide +kernel
theorem dX11_agrees_63 : decode cX11_agrees 63 = .ok (.laload, 1) := by decide +kernel
theorem dX11_agrees_64 : decode cX11_agrees 64 = .ok (.iload 4, 2) := by decide +kernel
theorem dX11_agrees_66 : decode cX11_agrees 66 = .ok (.i2l, 1) := by decide +kernel
theorem dX11_agrees_67 : decode cX11_agrees 67 = .ok (.lcmp, 1) := by decide +kernel
theorem dX11_agrees_68 : decode cX11_agrees 68 = .ok (.ifCond .gt 23, 3) := by decide +kernel
theorem dX11_agrees_71 : decode cX11_agrees 71 = .ok (.aload_n 0, 1) := by decide +kernel
theorem dX11_agrees_72 : decode cX11_agrees 72 = .ok (.getfield 66, 3) := by decide +kernel
theorem dX11_agrees_75 : decode cX11_agrees 75 = .ok (.getfield 217, 3) := by decide +kernel
theorem dX11_agrees_78 : decode cX11_agrees 78 = .ok (.iload 6, 2) := by decide +kernel
theorem dX11_agrees_80 : decode cX11_agrees 80 = .ok (.laload, 1) := by decide +kernel
theorem dX11_agrees_81 : decode cX11_agrees 81 = .ok (.iload_n 3, 1) := by decide +kernel
theorem dX11_agrees_82 : decode cX11_agrees 82 = .ok (.i2l, 1) := by decide +kernel
theorem dX11_agrees_83 : decode cX11_agrees 83 = .ok (.lcmp, 1) := by decide +kernel
theorem dX11_agrees_84 : decode cX11_agrees 84 = .ok (.ifCond .lt 7, 3) := by decide +kernel
theorem dX11_agrees_87 : decode cX11_agrees 87 = .ok (.iconst 1, 1) := by decide +kernel
theorem dX11_agrees_88 : decode cX11_agrees 88 = .ok (.goto 4, 3) := by decide +kernel
theorem dX11_agrees_91 : decode cX11_agrees 91 = .ok (.iconst 0, 1) := by decide +kernel
theorem dX11_agrees_92 : decode cX11_agrees 92 = .ok (.ireturn, 1) := by decide +kernel
theorem dX11_agrees_93 : decode cX11_agrees 93 = .ok (.iload_n 2, 1) := by decide +kernel
theorem dX11_agrees_94 : decode cX11_agrees 94 = .ok (.ifCond .eq 15, 3) := by decide +kernel
theorem dX11_agrees_97 : decode cX11_agrees 97 = .ok (.aload_n 0, 1) := by decide +kernel
theorem dX11_agrees_98 : decode cX11_agrees 98 = .ok (.getfield 73, 3) := by decide +kernel
theorem dX11_agrees_101 : decode cX11_agrees 101 = .ok (.iload 5, 2) := by decide +kernel
theorem dX11_agrees_103 : decode cX11_agrees 103 = .ok (.invokevirtual 268, 3) := by decide +kernel
theorem dX11_agrees_106 : decode cX11_agrees 106 = .ok (.goto 4, 3) := by decide +kernel
theorem dX11_agrees_109 : decode cX11_agrees 109 = .ok (.iconst (-1), 1) := by decide +kernel
theorem dX11_agrees_110 : decode cX11_agrees 110 = .ok (.istore 6, 2) := by decide +kernel
theorem dX11_agrees_112 : decode cX11_agrees 112 = .ok (.iload 6, 2) := by decide +kernel
theorem dX11_agrees_114 : decode cX11_agrees 114 = .ok (.iload_n 3, 1) := by decide +kernel
theorem dX11_agrees_115 : decode cX11_agrees 115 = .ok (.if_icmp .lt 14, 3) := by decide +kernel
theorem dX11_agrees_118 : decode cX11_agrees 118 = .ok (.iload 6, 2) := by decide +kernel
theorem dX11_agrees_120 : decode cX11_agrees 120 = .ok (.iload 4, 2) := by decide +kernel
theorem dX11_agrees_122 : decode cX11_agrees 122 = .ok (.if_icmp .gt 7, 3) := by decide +kernel
theorem dX11_agrees_125 : decode cX11_agrees 125 = .ok (.iconst 1, 1) := by decide +kernel
theorem dX11_agrees_126 : decode cX11_agrees 126 = .ok (.goto 4, 3) := by decide +kernel
theorem dX11_agrees_129 : decode cX11_agrees 129 = .ok (.iconst 0, 1) := by decide +kernel
theorem dX11_agrees_130 : decode cX11_agrees 130 = .ok (.ireturn, 1) := by decide +kernel
theorem dX11_makeStep_0 : decode cX11_makeStep 0 = .ok (.aload_n 0, 1) := by decide +kernel
theorem dX11_makeStep_1 : decode cX11_makeStep 1 = .ok (.getfield 35, 3) := by decide +kernel
theorem dX11_makeStep_4 : decode cX11_makeStep 4 = .ok (.getfield 294, 3) := by decide +kernel
theorem dX11_makeStep_7 : decode cX11_makeStep 7 = .ok (.sipush 300, 3) := by decide +kernel
theorem dX11_makeStep_10 : decode cX11_makeStep 10 = .ok (.if_icmp .lt 5, 3) := by decide +kernel
theorem dX11_makeStep_13 : decode cX11_makeStep 13 = .ok (.iconst 0, 1) := by decide +kernel
theorem dX11_makeStep_14 : decode cX11_makeStep 14 = .ok (.ireturn, 1) := by decide +kernel
theorem dX11_makeStep_15 : decode cX11_makeStep 15 = .ok (.aload_n 0, 1) := by decide +kernel
theorem dX11_makeStep_16 : decode cX11_makeStep 16 = .ok (.iload_n 1, 1) := by decide +kernel
theorem dX11_makeStep_17 : decode cX11_makeStep 17 = .ok (.invokevirtual 173, 3) := by decide +kernel
theorem dX11_makeStep_20 : decode cX11_makeStep 20 = .ok (.aload_n 0, 1) := by decide +kernel
theorem dX11_makeStep_21 : decode cX11_makeStep 21 = .ok (.getfield 66, 3) := by decide +kernel
theorem dX11_makeStep_24 : decode cX11_makeStep 24 = .ok (.getfield 223, 3) := by decide +kernel
theorem dX11_makeStep_27 : decode cX11_makeStep 27 = .ok (.ifCond .ne 5, 3) := by decide +kernel
theorem dX11_makeStep_30 : decode cX11_makeStep 30 = .ok (.iconst 0, 1) := by decide +kernel
theorem dX11_makeStep_31 : decode cX11_makeStep 31 = .ok (.ireturn, 1) := by decide +kernel
theorem dX11_makeStep_32 : decode cX11_makeStep 32 = .ok (.aload_n 0, 1) := by decide +kernel
theorem dX11_makeStep_33 : decode cX11_makeStep 33 = .ok (.getfield 35, 3) := by decide +kernel
theorem dX11_makeStep_36 : decode cX11_makeStep 36 = .ok (.getfield 145, 3) := by decide +kernel
theorem dX11_makeStep_39 : decode cX11_makeStep 39 = .ok (.iload_n 1, 1) := by decide +kernel
theorem dX11_makeStep_40 : decode cX11_makeStep 40 = .ok (.aaload, 1) := by decide +kernel
theorem dX11_makeStep_41 : decode cX11_makeStep 41 = .ok (.astore_n 2, 1) := by decide +kernel
theorem dX11_makeStep_42 : decode cX11_makeStep 42 = .ok (.aload_n 0, 1) := by decide +kernel
theorem dX11_makeStep_43 : decode cX11_makeStep 43 = .ok (.getfield 66, 3) := by decide +kernel
theorem dX11_makeStep_46 : decode cX11_makeStep 46 = .ok (.aload_n 2, 1) := by decide +kernel
theorem dX11_makeStep_47 : decode cX11_makeStep 47 = .ok (.aload_n 0, 1) := by decide +kernel
theorem dX11_makeStep_48 : decode cX11_makeStep 48 = .ok (.invokevirtual 121, 3) := by decide +kernel
theorem dX11_makeStep_51 : decode cX11_makeStep 51 = .ok (.invokevirtual 189, 3) := by decide +kernel
theorem dX11_makeStep_54 : decode cX11_makeStep 54 = .ok (.iconst 0, 1) := by decide +kernel
theorem dX11_makeStep_55 : decode cX11_makeStep 55 = .ok (.istore_n 3, 1) := by decide +kernel
theorem dX11_makeStep_56 : decode cX11_makeStep 56 = .ok (.iload_n 3, 1) := by decide +kernel
theorem dX11_makeStep_57 : decode cX11_makeStep 57 = .ok (.aload_n 2, 1) := by decide +kernel
theorem dX11_makeStep_58 : decode cX11_makeStep 58 = .ok (.getfield 149, 3) := by decide +kernel
theorem dX11_makeStep_61 : decode cX11_makeStep 61 = .ok (.if_icmp .ge 21, 3) := by decide +kernel
theorem dX11_makeStep_64 : decode cX11_makeStep 64 = .ok (.aload_n 0, 1) := by decide +kernel
theorem dX11_makeStep_65 : decode cX11_makeStep 65 = .ok (.aload_n 2, 1) := by decide +kernel
theorem dX11_makeStep_66 : decode cX11_makeStep 66 = .ok (.iload_n 3, 1) := by decide +kernel
theorem dX11_makeStep_67 : decode cX11_makeStep 67 = .ok (.invokevirtual 313, 3) := by decide +kernel
theorem dX11_makeStep_70 : decode cX11_makeStep 70 = .ok (.aload_n 0, 1) := by decide +kernel
theorem dX11_makeStep_71 : decode cX11_makeStep 71 = .ok (.iload_n 1, 1) := by decide +kernel
theorem dX11_makeStep_72 : decode cX11_makeStep 72 = .ok (.iload_n 3, 1) := by decide +kernel
theorem dX11_makeStep_73 : decode cX11_makeStep 73 = .ok (.invokevirtual 317, 3) := by decide +kernel
theorem dX11_makeStep_76 : decode cX11_makeStep 76 = .ok (.iinc 3 1, 3) := by decide +kernel
theorem dX11_makeStep_79 : decode cX11_makeStep 79 = .ok (.goto (-23), 3) := by decide +kernel
theorem dX11_makeStep_82 : decode cX11_makeStep 82 = .ok (.aload_n 0, 1) := by decide +kernel
theorem dX11_makeStep_83 : decode cX11_makeStep 83 = .ok (.aload_n 2, 1) := by decide +kernel
theorem dX11_makeStep_84 : decode cX11_makeStep 84 = .ok (.invokevirtual 321, 3) := by decide +kernel
theorem dX11_makeStep_87 : decode cX11_makeStep 87 = .ok (.aload_n 0, 1) := by decide +kernel
theorem dX11_makeStep_88 : decode cX11_makeStep 88 = .ok (.getfield 35, 3) := by decide +kernel
theorem dX11_makeStep_91 : decode cX11_makeStep 91 = .ok (.dup, 1) := by decide +kernel
theorem dX11_makeStep_92 : decode cX11_makeStep 92 = .ok (.getfield 294, 3) := by decide +kernel
theorem dX11_makeStep_95 : decode cX11_makeStep 95 = .ok (.iconst 1, 1) := by decide +kernel
theorem dX11_makeStep_96 : decode cX11_makeStep 96 = .ok (.iadd, 1) := by decide +kernel
theorem dX11_makeStep_97 : decode cX11_makeStep 97 = .ok (.putfield 294, 3) := by decide +kernel
theorem dX11_makeStep_100 : decode cX11_makeStep 100 = .ok (.iconst 1, 1) := by decide +kernel
theorem dX11_makeStep_101 : decode cX11_makeStep 101 = .ok (.ireturn, 1) := by decide +kernel
theorem dX11_burnShell_0 : decode cX11_burnShell 0 = .ok (.aload_n 0, 1) := by decide +kernel
theorem dX11_burnShell_1 : decode cX11_burnShell 1 = .ok (.invokevirtual 121, 3) := by decide +kernel
theorem dX11_burnShell_4 : decode cX11_burnShell 4 = .ok (.astore_n 3, 1) := by decide +kernel
theorem dX11_burnShell_5 : decode cX11_burnShell 5 = .ok (.iconst 0, 1) := by decide +kernel
theorem dX11_burnShell_6 : decode cX11_burnShell 6 = .ok (.istore 4, 2) := by decide +kernel
theorem dX11_burnShell_8 : decode cX11_burnShell 8 = .ok (.iload 4, 2) := by decide +kernel
theorem dX11_burnShell_10 : decode cX11_burnShell 10 = .ok (.bipush 6, 2) := by decide +kernel
theorem dX11_burnShell_12 : decode cX11_burnShell 12 = .ok (.if_icmp .ge 23, 3) := by decide +kernel
theorem dX11_burnShell_15 : decode cX11_burnShell 15 = .ok (.aload_n 0, 1) := by decide +kernel
theorem dX11_burnShell_16 : decode cX11_burnShell 16 = .ok (.getfield 77, 3) := by decide +kernel
theorem dX11_burnShell_19 : decode cX11_burnShell 19 = .ok (.iload 4, 2) := by decide +kernel
theorem dX11_burnShell_21 : decode cX11_burnShell 21 = .ok (.aload_n 1, 1) := by decide +kernel
theorem dX11_burnShell_22 : decode cX11_burnShell 22 = .ok (.iload_n 2, 1) := by decide +kernel
theorem dX11_burnShell_23 : decode cX11_burnShell 23 = .ok (.iload 4, 2) := by decide +kernel
theorem dX11_burnShell_25 : decode cX11_burnShell 25 = .ok (.invokevirtual 163, 3) := by decide +kernel
theorem dX11_burnShell_28 : decode cX11_burnShell 28 = .ok (.iastore, 1) := by decide +kernel
theorem dX11_burnShell_29 : decode cX11_burnShell 29 = .ok (.iinc 4 1, 3) := by decide +kernel
theorem dX11_burnShell_32 : decode cX11_burnShell 32 = .ok (.goto (-24), 3) := by decide +kernel
theorem dX11_burnShell_35 : decode cX11_burnShell 35 = .ok (.iconst 0, 1) := by decide +kernel
theorem dX11_burnShell_36 : decode cX11_burnShell 36 = .ok (.istore 4, 2) := by decide +kernel
theorem dX11_burnShell_38 : decode cX11_burnShell 38 = .ok (.iload 4, 2) := by decide +kernel
theorem dX11_burnShell_40 : decode cX11_burnShell 40 = .ok (.iconst 5, 1) := by decide +kernel
theorem dX11_burnShell_41 : decode cX11_burnShell 41 = .ok (.if_icmp .ge 63, 3) := by decide +kernel
theorem dX11_burnShell_44 : decode cX11_burnShell 44 = .ok (.aload_n 0, 1) := by decide +kernel
theorem dX11_burnShell_45 : decode cX11_burnShell 45 = .ok (.getfield 81, 3) := by decide +kernel
theorem dX11_burnShell_48 : decode cX11_burnShell 48 = .ok (.iload 4, 2) := by decide +kernel
theorem dX11_burnShell_50 : decode cX11_burnShell 50 = .ok (.lconst 0, 1) := by decide +kernel
theorem dX11_burnShell_51 : decode cX11_burnShell 51 = .ok (.lastore, 1) := by decide +kernel
theorem dX11_burnShell_52 : decode cX11_burnShell 52 = .ok (.aload_n 3, 1) := by decide +kernel
theorem dX11_burnShell_53 : decode cX11_burnShell 53 = .ok (.iload 4, 2) := by decide +kernel
theorem dX11_burnShell_55 : decode cX11_burnShell 55 = .ok (.invokevirtual 131, 3) := by decide +kernel
theorem dX11_burnShell_58 : decode cX11_burnShell 58 = .ok (.ifCond .eq 40, 3) := by decide +kernel
theorem dX11_burnShell_61 : decode cX11_burnShell 61 = .ok (.aload_n 3, 1) := by decide +kernel
theorem dX11_burnShell_62 : decode cX11_burnShell 62 = .ok (.iconst 2, 1) := by decide +kernel
theorem dX11_burnShell_63 : decode cX11_burnShell 63 = .ok (.iload 4, 2) := by decide +kernel
theorem dX11_burnShell_65 : decode cX11_burnShell 65 = .ok (.iadd, 1) := by decide +kernel
theorem dX11_burnShell_66 : decode cX11_burnShell 66 = .ok (.aload_n 0, 1) := by decide +kernel
theorem dX11_burnShell_67 : decode cX11_burnShell 67 = .ok (.getfield 66, 3) := by decide +kernel
theorem dX11_burnShell_70 : decode cX11_burnShell 70 = .ok (.getfield 183, 3) := by decide +kernel
theorem dX11_burnShell_73 : decode cX11_burnShell 73 = .ok (.iload_n 2, 1) := by decide +kernel
theorem dX11_burnShell_74 : decode cX11_burnShell 74 = .ok (.iaload, 1) := by decide +kernel
theorem dX11_burnShell_75 : decode cX11_burnShell 75 = .ok (.iconst 0, 1) := by decide +kernel
theorem dX11_burnShell_76 : decode cX11_burnShell 76 = .ok (.invokevirtual 138, 3) := by decide +kernel
theorem dX11_burnShell_79 : decode cX11_burnShell 79 = .ok (.istore 5, 2) := by decide +kernel
theorem dX11_burnShell_81 : decode cX11_burnShell 81 = .ok (.aload_n 0, 1) := by decide +kernel
theorem dX11_burnShell_82 : decode cX11_burnShell 82 = .ok (.getfield 81, 3) := by decide +kernel
theorem dX11_burnShell_85 : decode cX11_burnShell 85 = .ok (.iload 4, 2) := by decide +kernel
theorem dX11_burnShell_87 : decode cX11_burnShell 87 = .ok (.aload_n 1, 1) := by decide +kernel
theorem dX11_burnShell_88 : decode cX11_burnShell 88 = .ok (.iload_n 2, 1) := by decide +kernel
theorem dX11_burnShell_89 : decode cX11_burnShell 89 = .ok (.iload 4, 2) := by decide +kernel
theorem dX11_burnShell_91 : decode cX11_burnShell 91 = .ok (.aload_n 3, 1) := by decide +kernel
theorem dX11_burnShell_92 : decode cX11_burnShell 92 = .ok (.iload 5, 2) := by decide +kernel
theorem dX11_burnShell_94 : decode cX11_burnShell 94 = .ok (.invokevirtual 325, 3) := by decide +kernel
theorem dX11_burnShell_97 : decode cX11_burnShell 97 = .ok (.lastore, 1) := by decide +kernel
theorem dX11_burnShell_98 : decode cX11_burnShell 98 = .ok (.iinc 4 1, 3) := by decide +kernel
theorem dX11_burnShell_101 : decode cX11_burnShell 101 = .ok (.goto (-63), 3) := by decide +kernel
theorem dX11_burnShell_104 : decode cX11_burnShell 104 = .ok (.return_, 1) := by decide +kernel
theorem dX11_tellEvents_0 : decode cX11_tellEvents 0 = .ok (.aload_n 0, 1) := by decide +kernel
theorem dX11_tellEvents_1 : decode cX11_tellEvents 1 = .ok (.getfield 35, 3) := by decide +kernel
theorem dX11_tellEvents_4 : decode cX11_tellEvents 4 = .ok (.getfield 145, 3) := by decide +kernel
theorem dX11_tellEvents_7 : decode cX11_tellEvents 7 = .ok (.iload_n 1, 1) := by decide +kernel
theorem dX11_tellEvents_8 : decode cX11_tellEvents 8 = .ok (.aaload, 1) := by decide +kernel
theorem dX11_tellEvents_9 : decode cX11_tellEvents 9 = .ok (.astore_n 3, 1) := by decide +kernel
theorem dX11_tellEvents_10 : decode cX11_tellEvents 10 = .ok (.aload_n 0, 1) := by decide +kernel
theorem dX11_tellEvents_11 : decode cX11_tellEvents 11 = .ok (.invokevirtual 121, 3) := by decide +kernel
theorem dX11_tellEvents_14 : decode cX11_tellEvents 14 = .ok (.astore 4, 2) := by decide +kernel
theorem dX11_tellEvents_16 : decode cX11_tellEvents 16 = .ok (.iconst 0, 1) := by decide +kernel
theorem dX11_tellEvents_17 : decode cX11_tellEvents 17 = .ok (.istore 5, 2) := by decide +kernel
theorem dX11_tellEvents_19 : decode cX11_tellEvents 19 = .ok (.iload 5, 2) := by decide +kernel
theorem dX11_tellEvents_21 : decode cX11_tellEvents 21 = .ok (.iconst 5, 1) := by decide +kernel
theorem dX11_tellEvents_22 : decode cX11_tellEvents 22 = .ok (.if_icmp .ge 132, 3) := by decide +kernel
theorem dX11_tellEvents_25 : decode cX11_tellEvents 25 = .ok (.iload_n 2, 1) := by decide +kernel
theorem dX11_tellEvents_26 : decode cX11_tellEvents 26 = .ok (.iconst 5, 1) := by decide +kernel
theorem dX11_tellEvents_27 : decode cX11_tellEvents 27 = .ok (.imul, 1) := by decide +kernel
theorem dX11_tellEvents_28 : decode cX11_tellEvents 28 = .ok (.iload 5, 2) := by decide +kernel
theorem dX11_tellEvents_30 : decode cX11_tellEvents 30 = .ok (.iadd, 1) := by decide +kernel
theorem dX11_tellEvents_31 : decode cX11_tellEvents 31 = .ok (.istore 6, 2) := by decide +kernel
theorem dX11_tellEvents_33 : decode cX11_tellEvents 33 = .ok (.aload 4, 2) := by decide +kernel
theorem dX11_tellEvents_35 : decode cX11_tellEvents 35 = .ok (.iload 5, 2) := by decide +kernel
theorem dX11_tellEvents_37 : decode cX11_tellEvents 37 = .ok (.invokevirtual 131, 3) := by decide +kernel
theorem dX11_tellEvents_40 : decode cX11_tellEvents 40 = .ok (.ifCond .eq 56, 3) := by decide +kernel
theorem dX11_tellEvents_43 : decode cX11_tellEvents 43 = .ok (.aload 4, 2) := by decide +kernel
theorem dX11_tellEvents_45 : decode cX11_tellEvents 45 = .ok (.iload 5, 2) := by decide +kernel
theorem dX11_tellEvents_47 : decode cX11_tellEvents 47 = .ok (.iconst 0, 1) := by decide +kernel
theorem dX11_tellEvents_48 : decode cX11_tellEvents 48 = .ok (.invokevirtual 134, 3) := by decide +kernel
theorem dX11_tellEvents_51 : decode cX11_tellEvents 51 = .ok (.istore 7, 2) := by decide +kernel
theorem dX11_tellEvents_53 : decode cX11_tellEvents 53 = .ok (.aload 4, 2) := by decide +kernel
theorem dX11_tellEvents_55 : decode cX11_tellEvents 55 = .ok (.iload 5, 2) := by decide +kernel
theorem dX11_tellEvents_57 : decode cX11_tellEvents 57 = .ok (.iconst 1, 1) := by decide +kernel
theorem dX11_tellEvents_58 : decode cX11_tellEvents 58 = .ok (.invokevirtual 134, 3) := by decide +kernel
theorem dX11_tellEvents_61 : decode cX11_tellEvents 61 = .ok (.istore 8, 2) := by decide +kernel
theorem dX11_tellEvents_63 : decode cX11_tellEvents 63 = .ok (.aload_n 3, 1) := by decide +kernel
theorem dX11_tellEvents_64 : decode cX11_tellEvents 64 = .ok (.iload_n 2, 1) := by decide +kernel
theorem dX11_tellEvents_65 : decode cX11_tellEvents 65 = .ok (.iload 7, 2) := by decide +kernel
theorem dX11_tellEvents_67 : decode cX11_tellEvents 67 = .ok (.invokevirtual 163, 3) := by decide +kernel
theorem dX11_tellEvents_70 : decode cX11_tellEvents 70 = .ok (.iload 8, 2) := by decide +kernel
theorem dX11_tellEvents_72 : decode cX11_tellEvents 72 = .ok (.if_icmp .ge 24, 3) := by decide +kernel
theorem dX11_tellEvents_75 : decode cX11_tellEvents 75 = .ok (.aload_n 0, 1) := by decide +kernel
theorem dX11_tellEvents_76 : decode cX11_tellEvents 76 = .ok (.getfield 77, 3) := by decide +kernel
theorem dX11_tellEvents_79 : decode cX11_tellEvents 79 = .ok (.iload 7, 2) := by decide +kernel
theorem dX11_tellEvents_81 : decode cX11_tellEvents 81 = .ok (.iaload, 1) := by decide +kernel
theorem dX11_tellEvents_82 : decode cX11_tellEvents 82 = .ok (.iload 8, 2) := by decide +kernel
theorem dX11_tellEvents_84 : decode cX11_tellEvents 84 = .ok (.if_icmp .lt 12, 3) := by decide +kernel
theorem dX11_tellEvents_87 : decode cX11_tellEvents 87 = .ok (.aload_n 0, 1) := by decide +kernel
theorem dX11_tellEvents_88 : decode cX11_tellEvents 88 = .ok (.iload_n 1, 1) := by decide +kernel
theorem dX11_tellEvents_89 : decode cX11_tellEvents 89 = .ok (.iload_n 2, 1) := by decide +kernel
theorem dX11_tellEvents_90 : decode cX11_tellEvents 90 = .ok (.iload 5, 2) := by decide +kernel
theorem dX11_tellEvents_92 : decode cX11_tellEvents 92 = .ok (.iconst 0, 1) := by decide +kernel
theorem dX11_tellEvents_93 : decode cX11_tellEvents 93 = .ok (.invokevirtual 329, 3) := by decide +kernel
theorem dX11_tellEvents_96 : decode cX11_tellEvents 96 = .ok (.aload_n 0, 1) := by decide +kernel
theorem dX11_tellEvents_97 : decode cX11_tellEvents 97 = .ok (.getfield 81, 3) := by decide +kernel
theorem dX11_tellEvents_100 : decode cX11_tellEvents 100 = .ok (.iload 5, 2) := by decide +kernel
theorem dX11_tellEvents_102 : decode cX11_tellEvents 102 = .ok (.laload, 1) := by decide +kernel
theorem dX11_tellEvents_103 : decode cX11_tellEvents 103 = .ok (.lconst 0, 1) := by decide +kernel
theorem dX11_tellEvents_104 : decode cX11_tellEvents 104 = .ok (.lcmp, 1) := by decide +kernel
theorem dX11_tellEvents_105 : decode cX11_tellEvents 105 = .ok (.ifCond .le 7, 3) := by decide +kernel
theorem dX11_tellEvents_108 : decode cX11_tellEvents 108 = .ok (.iconst 1, 1) := by decide +kernel
theorem dX11_tellEvents_109 : decode cX11_tellEvents 109 = .ok (.goto 4, 3) := by decide +kernel
theorem dX11_tellEvents_112 : decode cX11_tellEvents 112 = .ok (.iconst 0, 1) := by decide +kernel
theorem dX11_tellEvents_113 : decode cX11_tellEvents 113 = .ok (.istore 7, 2) := by decide +kernel
theorem dX11_tellEvents_115 : decode cX11_tellEvents 115 = .ok (.iload 7, 2) := by decide +kernel
theorem dX11_tellEvents_117 : decode cX11_tellEvents 117 = .ok (.ifCond .eq 22, 3) := by decide +kernel
theorem dX11_tellEvents_120 : decode cX11_tellEvents 120 = .ok (.aload_n 3, 1) := by decide +kernel
theorem dX11_tellEvents_121 : decode cX11_tellEvents 121 = .ok (.getfield 333, 3) := by decide +kernel
theorem dX11_tellEvents_124 : decode cX11_tellEvents 124 = .ok (.iload 6, 2) := by decide +kernel
theorem dX11_tellEvents_126 : decode cX11_tellEvents 126 = .ok (.baload, 1) := by decide +kernel
theorem dX11_tellEvents_127 : decode cX11_tellEvents 127 = .ok (.ifCond .ne 12, 3) := by decide +kernel
theorem dX11_tellEvents_130 : decode cX11_tellEvents 130 = .ok (.aload_n 0, 1) := by decide +kernel
theorem dX11_tellEvents_131 : decode cX11_tellEvents 131 = .ok (.iload_n 1, 1) := by decide +kernel
theorem dX11_tellEvents_132 : decode cX11_tellEvents 132 = .ok (.iload_n 2, 1) := by decide +kernel
theorem dX11_tellEvents_133 : decode cX11_tellEvents 133 = .ok (.iload 5, 2) := by decide +kernel
theorem dX11_tellEvents_135 : decode cX11_tellEvents 135 = .ok (.iconst 1, 1) := by decide +kernel
theorem dX11_tellEvents_136 : decode cX11_tellEvents 136 = .ok (.invokevirtual 329, 3) := by decide +kernel
theorem dX11_tellEvents_139 : decode cX11_tellEvents 139 = .ok (.aload_n 3, 1) := by decide +kernel
theorem dX11_tellEvents_140 : decode cX11_tellEvents 140 = .ok (.getfield 333, 3) := by decide +kernel
theorem dX11_tellEvents_143 : decode cX11_tellEvents 143 = .ok (.iload 6, 2) := by decide +kernel
theorem dX11_tellEvents_145 : decode cX11_tellEvents 145 = .ok (.iload 7, 2) := by decide +kernel
theorem dX11_tellEvents_147 : decode cX11_tellEvents 147 = .ok (.bastore, 1) := by decide +kernel
theorem dX11_tellEvents_148 : decode cX11_tellEvents 148 = .ok (.iinc 5 1, 3) := by decide +kernel
theorem dX11_tellEvents_151 : decode cX11_tellEvents 151 = .ok (.goto (-132), 3) := by decide +kernel
theorem dX11_tellEvents_154 : decode cX11_tellEvents 154 = .ok (.return_, 1) := by decide +kernel
theorem dX11_keepEvent_0 : decode cX11_keepEvent 0 = .ok (.aload_n 0, 1) := by decide +kernel
theorem dX11_keepEvent_1 : decode cX11_keepEvent 1 = .ok (.getfield 35, 3) := by decide +kernel
theorem dX11_keepEvent_4 : decode cX11_keepEvent 4 = .ok (.getfield 229, 3) := by decide +kernel
theorem dX11_keepEvent_7 : decode cX11_keepEvent 7 = .ok (.sipush 200, 3) := by decide +kernel
theorem dX11_keepEvent_10 : decode cX11_keepEvent 10 = .ok (.if_icmp .lt 4, 3) := by decide +kernel
theorem dX11_keepEvent_13 : decode cX11_keepEvent 13 = .ok (.return_, 1) := by decide +kernel
theorem dX11_keepEvent_14 : decode cX11_keepEvent 14 = .ok (.aload_n 0, 1) := by decide +kernel
theorem dX11_keepEvent_15 : decode cX11_keepEvent 15 = .ok (.getfield 35, 3) := by decide +kernel
theorem dX11_keepEvent_18 : decode cX11_keepEvent 18 = .ok (.getfield 229, 3) := by decide +kernel
theorem dX11_keepEvent_21 : decode cX11_keepEvent 21 = .ok (.iconst 5, 1) := by decide +kernel
theorem dX11_keepEvent_22 : decode cX11_keepEvent 22 = .ok (.imul, 1) := by decide +kernel
theorem dX11_keepEvent_23 : decode cX11_keepEvent 23 = .ok (.istore 5, 2) := by decide +kernel
theorem dX11_keepEvent_25 : decode cX11_keepEvent 25 = .ok (.aload_n 0, 1) := by decide +kernel
theorem dX11_keepEvent_26 : decode cX11_keepEvent 26 = .ok (.getfield 45, 3) := by decide +kernel
theorem dX11_keepEvent_29 : decode cX11_keepEvent 29 = .ok (.getfield 231, 3) := by decide +kernel
theorem dX11_keepEvent_32 : decode cX11_keepEvent 32 = .ok (.iload 5, 2) := by decide +kernel
theorem dX11_keepEvent_34 : decode cX11_keepEvent 34 = .ok (.aload_n 0, 1) := by decide +kernel
theorem dX11_keepEvent_35 : decode cX11_keepEvent 35 = .ok (.getfield 35, 3) := by decide +kernel
theorem dX11_keepEvent_38 : decode cX11_keepEvent 38 = .ok (.getfield 294, 3) := by decide +kernel
theorem dX11_keepEvent_41 : decode cX11_keepEvent 41 = .ok (.iastore, 1) := by decide +kernel
theorem dX11_keepEvent_42 : decode cX11_keepEvent 42 = .ok (.aload_n 0, 1) := by decide +kernel
theorem dX11_keepEvent_43 : decode cX11_keepEvent 43 = .ok (.getfield 45, 3) := by decide +kernel
theorem dX11_keepEvent_46 : decode cX11_keepEvent 46 = .ok (.getfield 231, 3) := by decide +kernel
theorem dX11_keepEvent_49 : decode cX11_keepEvent 49 = .ok (.iload 5, 2) := by decide +kernel
theorem dX11_keepEvent_51 : decode cX11_keepEvent 51 = .ok (.iconst 1, 1) := by decide +kernel
theorem dX11_keepEvent_52 : decode cX11_keepEvent 52 = .ok (.iadd, 1) := by decide +kernel
theorem dX11_keepEvent_53 : decode cX11_keepEvent 53 = .ok (.iload_n 1, 1) := by decide +kernel
theorem dX11_keepEvent_54 : decode cX11_keepEvent 54 = .ok (.iastore, 1) := by decide +kernel
theorem dX11_keepEvent_55 : decode cX11_keepEvent 55 = .ok (.aload_n 0, 1) := by decide +kernel
theorem dX11_keepEvent_56 : decode cX11_keepEvent 56 = .ok (.getfield 45, 3) := by decide +kernel
theorem dX11_keepEvent_59 : decode cX11_keepEvent 59 = .ok (.getfield 231, 3) := by decide +kernel
theorem dX11_keepEvent_62 : decode cX11_keepEvent 62 = .ok (.iload 5, 2) := by decide +kernel
theorem dX11_keepEvent_64 : decode cX11_keepEvent 64 = .ok (.iconst 2, 1) := by decide +kernel
theorem dX11_keepEvent_65 : decode cX11_keepEvent 65 = .ok (.iadd, 1) := by decide +kernel
theorem dX11_keepEvent_66 : decode cX11_keepEvent 66 = .ok (.iload_n 2, 1) := by decide +kernel
theorem dX11_keepEvent_67 : decode cX11_keepEvent 67 = .ok (.iastore, 1) := by decide +kernel
theorem dX11_keepEvent_68 : decode cX11_keepEvent 68 = .ok (.aload_n 0, 1) := by decide +kernel
theorem dX11_keepEvent_69 : decode cX11_keepEvent 69 = .ok (.getfield 45, 3) := by decide +kernel
theorem dX11_keepEvent_72 : decode cX11_keepEvent 72 = .ok (.getfield 231, 3) := by decide +kernel
theorem dX11_keepEvent_75 : decode cX11_keepEvent 75 = .ok (.iload 5, 2) := by decide +kernel
theorem dX11_keepEvent_77 : decode cX11_keepEvent 77 = .ok (.iconst 3, 1) := by decide +kernel
theorem dX11_keepEvent_78 : decode cX11_keepEvent 78 = .ok (.iadd, 1) := by decide +kernel
theorem dX11_keepEvent_79 : decode cX11_keepEvent 79 = .ok (.iload_n 3, 1) := by decide +kernel
theorem dX11_keepEvent_80 : decode cX11_keepEvent 80 = .ok (.iastore, 1) := by decide +kernel
theorem dX11_keepEvent_81 : decode cX11_keepEvent 81 = .ok (.aload_n 0, 1) := by decide +kernel
theorem dX11_keepEvent_82 : decode cX11_keepEvent 82 = .ok (.getfield 45, 3) := by decide +kernel
theorem dX11_keepEvent_85 : decode cX11_keepEvent 85 = .ok (.getfield 231, 3) := by decide +kernel
theorem dX11_keepEvent_88 : decode cX11_keepEvent 88 = .ok (.iload 5, 2) := by decide +kernel
theorem dX11_keepEvent_90 : decode cX11_keepEvent 90 = .ok (.iconst 4, 1) := by decide +kernel
theorem dX11_keepEvent_91 : decode cX11_keepEvent 91 = .ok (.iadd, 1) := by decide +kernel
theorem dX11_keepEvent_92 : decode cX11_keepEvent 92 = .ok (.iload 4, 2) := by decide +kernel
theorem dX11_keepEvent_94 : decode cX11_keepEvent 94 = .ok (.iastore, 1) := by decide +kernel
theorem dX11_keepEvent_95 : decode cX11_keepEvent 95 = .ok (.aload_n 0, 1) := by decide +kernel
theorem dX11_keepEvent_96 : decode cX11_keepEvent 96 = .ok (.getfield 35, 3) := by decide +kernel
theorem dX11_keepEvent_99 : decode cX11_keepEvent 99 = .ok (.dup, 1) := by decide +kernel
theorem dX11_keepEvent_100 : decode cX11_keepEvent 100 = .ok (.getfield 229, 3) := by decide +kernel
theorem dX11_keepEvent_103 : decode cX11_keepEvent 103 = .ok (.iconst 1, 1) := by decide +kernel
theorem dX11_keepEvent_104 : decode cX11_keepEvent 104 = .ok (.iadd, 1) := by decide +kernel
theorem dX11_keepEvent_105 : decode cX11_keepEvent 105 = .ok (.putfield 229, 3) := by decide +kernel
theorem dX11_keepEvent_108 : decode cX11_keepEvent 108 = .ok (.return_, 1) := by decide +kernel
theorem dX11_mixChurned_0 : decode cX11_mixChurned 0 = .ok (.iconst 0, 1) := by decide +kernel
theorem dX11_mixChurned_1 : decode cX11_mixChurned 1 = .ok (.istore_n 2, 1) := by decide +kernel
theorem dX11_mixChurned_2 : decode cX11_mixChurned 2 = .ok (.iconst 0, 1) := by decide +kernel
theorem dX11_mixChurned_3 : decode cX11_mixChurned 3 = .ok (.istore_n 3, 1) := by decide +kernel
theorem dX11_mixChurned_4 : decode cX11_mixChurned 4 = .ok (.iload_n 3, 1) := by decide +kernel
theorem dX11_mixChurned_5 : decode cX11_mixChurned 5 = .ok (.aload_n 1, 1) := by decide +kernel
theorem dX11_mixChurned_6 : decode cX11_mixChurned 6 = .ok (.getfield 149, 3) := by decide +kernel
theorem dX11_mixChurned_9 : decode cX11_mixChurned 9 = .ok (.if_icmp .ge 60, 3) := by decide +kernel
theorem dX11_mixChurned_12 : decode cX11_mixChurned 12 = .ok (.aload_n 0, 1) := by decide +kernel
theorem dX11_mixChurned_13 : decode cX11_mixChurned 13 = .ok (.getfield 66, 3) := by decide +kernel
theorem dX11_mixChurned_16 : decode cX11_mixChurned 16 = .ok (.getfield 193, 3) := by decide +kernel
theorem dX11_mixChurned_19 : decode cX11_mixChurned 19 = .ok (.iload_n 3, 1) := by decide +kernel
theorem dX11_mixChurned_20 : decode cX11_mixChurned 20 = .ok (.iaload, 1) := by decide +kernel
theorem dX11_mixChurned_21 : decode cX11_mixChurned 21 = .ok (.iconst 1, 1) := by decide +kernel
theorem dX11_mixChurned_22 : decode cX11_mixChurned 22 = .ok (.if_icmp .eq 10, 3) := by decide +kernel
theorem dX11_mixChurned_25 : decode cX11_mixChurned 25 = .ok (.iload_n 3, 1) := by decide +kernel
theorem dX11_mixChurned_26 : decode cX11_mixChurned 26 = .ok (.iconst 1, 1) := by decide +kernel
theorem dX11_mixChurned_27 : decode cX11_mixChurned 27 = .ok (.iadd, 1) := by decide +kernel
theorem dX11_mixChurned_28 : decode cX11_mixChurned 28 = .ok (.istore_n 2, 1) := by decide +kernel
theorem dX11_mixChurned_29 : decode cX11_mixChurned 29 = .ok (.goto 34, 3) := by decide +kernel
theorem dX11_mixChurned_32 : decode cX11_mixChurned 32 = .ok (.iload_n 3, 1) := by decide +kernel
theorem dX11_mixChurned_33 : decode cX11_mixChurned 33 = .ok (.iconst 1, 1) := by decide +kernel
theorem dX11_mixChurned_34 : decode cX11_mixChurned 34 = .ok (.iadd, 1) := by decide +kernel
theorem dX11_mixChurned_35 : decode cX11_mixChurned 35 = .ok (.aload_n 1, 1) := by decide +kernel
theorem dX11_mixChurned_36 : decode cX11_mixChurned 36 = .ok (.getfield 149, 3) := by decide +kernel
theorem dX11_mixChurned_39 : decode cX11_mixChurned 39 = .ok (.if_icmp .eq 18, 3) := by decide +kernel
theorem dX11_mixChurned_42 : decode cX11_mixChurned 42 = .ok (.aload_n 0, 1) := by decide +kernel
theorem dX11_mixChurned_43 : decode cX11_mixChurned 43 = .ok (.getfield 66, 3) := by decide +kernel
theorem dX11_mixChurned_46 : decode cX11_mixChurned 46 = .ok (.getfield 193, 3) := by decide +kernel
theorem dX11_mixChurned_49 : decode cX11_mixChurned 49 = .ok (.iload_n 3, 1) := by decide +kernel
theorem dX11_mixChurned_50 : decode cX11_mixChurned 50 = .ok (.iconst 1, 1) := by decide +kernel
theorem dX11_mixChurned_51 : decode cX11_mixChurned 51 = .ok (.iadd, 1) := by decide +kernel
theorem dX11_mixChurned_52 : decode cX11_mixChurned 52 = .ok (.iaload, 1) := by decide +kernel
theorem dX11_mixChurned_53 : decode cX11_mixChurned 53 = .ok (.iconst 1, 1) := by decide +kernel
theorem dX11_mixChurned_54 : decode cX11_mixChurned 54 = .ok (.if_icmp .eq 9, 3) := by decide +kernel
theorem dX11_mixChurned_57 : decode cX11_mixChurned 57 = .ok (.aload_n 1, 1) := by decide +kernel
theorem dX11_mixChurned_58 : decode cX11_mixChurned 58 = .ok (.iload_n 2, 1) := by decide +kernel
theorem dX11_mixChurned_59 : decode cX11_mixChurned 59 = .ok (.iload_n 3, 1) := by decide +kernel
theorem dX11_mixChurned_60 : decode cX11_mixChurned 60 = .ok (.invokevirtual 337, 3) := by decide +kernel
theorem dX11_mixChurned_63 : decode cX11_mixChurned 63 = .ok (.iinc 3 1, 3) := by decide +kernel
theorem dX11_mixChurned_66 : decode cX11_mixChurned 66 = .ok (.goto (-62), 3) := by decide +kernel
theorem dX11_mixChurned_69 : decode cX11_mixChurned 69 = .ok (.return_, 1) := by decide +kernel
end
section

abbrev Mem : Type := (Nat → Nat → Int32) × (Nat → Nat → Int64)
def si (u : Mem) (k j : Nat) (v : Int32) : Mem := (va_up u.1 k (upd (u.1 k) j v), u.2)
def sl (u : Mem) (k j : Nat) (v : Int64) : Mem := (u.1, va_up u.2 k (vp_updL (u.2 k) j v))
/-- a whole row at place k -/
def sr (u : Mem) (k : Nat) (f : Nat → Int32) : Mem := (va_up u.1 k f, u.2)
def srl (u : Mem) (k : Nat) (f : Nat → Int64) : Mem := (u.1, va_up u.2 k f)
abbrev Sh : Type := (Nat × List Nat) ⊕ (Nat × Nat × (Nat → Nat))
def sv (ad : Nat → Nat) (mi : Nat → Int32) (ml : Nat → Int64) (j : Nat) : Nat → Value
  | 0 => .int (mi j)
  | 1 => .long (ml j)
  | 2 => .ref (ad (5 * (mi j).toNatClampNeg))
  | p + 3 => .ref (ad p)
def sE (cy : Nat → ClassId) (ad : Nat → Nat) (mi : Nat → Int32) (ml : Nat → Int64) : Sh → va_E
  | .inl (ci, l) => .inr (ci, l.mapIdx (sv ad mi ml))
  | .inr (0, n, _) => .inl (cy 0, n, .inl mi)
  | .inr (1, n, _) => .inl (cy 1, n, .inl mi)
  | .inr (2, n, _) => .inl (cy 2, n, .inl mi)
  | .inr (3, n, _) => .inl (cy 3, n, .inr (.inl ml))
  | .inr (t + 4, n, f) => .inl (cy (t + 4), n, .inr (.inr (.inr (.inr (fun i => some (ad (f i)))))))
def wl (ad : Nat → Nat) (n : Nat) (E : Nat → va_E) : va_W := (List.range n).map (fun k => (ad k, E k))
theorem wl_at {ad : Nat → Nat} {n k : Nat} {E : Nat → va_E} (h : k < n) : (wl ad n E)[k]? = some (ad k, E k) := by
  simp [wl, h]
theorem wl_some {ad : Nat → Nat} {n k : Nat} {E : Nat → va_E} {q : Nat × va_E} (h : (wl ad n E)[k]? = some q) : k < n ∧ q = (ad k, E k) := by
  by_cases hk : k < n
  · rw [wl_at hk] at h
    exact ⟨hk, (Option.some.inj h).symm⟩
  · have h2 : (wl ad n E).length ≤ k := by simp [wl]; omega
    rw [List.getElem?_eq_none h2] at h
    cases h
theorem wl_set {ad : Nat → Nat} {n k : Nat} {E : Nat → va_E} {e : va_E} : (wl ad n E).set k (ad k, e) = wl ad n (va_up E k e) := by
  apply List.ext_getElem?
  intro j
  by_cases hj : j < n
  · rw [wl_at hj, List.getElem?_set]
    by_cases hk : k = j
    · subst hk
      simp [wl, hj, va_up]
    · rw [if_neg hk, wl_at hj, va_up_ne _ _ (Ne.symm hk)]
  · rw [List.getElem?_eq_none (by simp [wl]; omega), List.getElem?_eq_none (by simp [wl]; omega)]
def wE (cy : Nat → ClassId) (ad : Nat → Nat) (sh : Nat → Sh) (u : Mem) : Nat → va_E := fun k => sE cy ad (u.1 k) (u.2 k) (sh k)
theorem wE_si {cy : Nat → ClassId} {ad : Nat → Nat} {sh : Nat → Sh} {u : Mem} {k j : Nat} {v : Int32} {e : va_E} (h : sE cy ad (upd (u.1 k) j v) (u.2 k) (sh k) = e) : va_up (wE cy ad sh u) k e = wE cy ad sh (si u k j v) := by
  funext a
  by_cases ha : a = k
  · subst ha
    simp only [va_up_self, wE, si]
    exact h.symm
  · simp only [va_up_ne _ _ ha, wE, si]
theorem wE_sr {cy : Nat → ClassId} {ad : Nat → Nat} {sh : Nat → Sh} {u : Mem} {k : Nat} {f : Nat → Int32} {e : va_E} (h : sE cy ad f (u.2 k) (sh k) = e) : va_up (wE cy ad sh u) k e = wE cy ad sh (sr u k f) := by
  funext a
  by_cases ha : a = k
  · subst ha
    simp only [va_up_self, wE, sr]
    exact h.symm
  · simp only [va_up_ne _ _ ha, wE, sr]
theorem wE_sl {cy : Nat → ClassId} {ad : Nat → Nat} {sh : Nat → Sh} {u : Mem} {k j : Nat} {v : Int64} {e : va_E} (h : sE cy ad (u.1 k) (vp_updL (u.2 k) j v) (sh k) = e) : va_up (wE cy ad sh u) k e = wE cy ad sh (sl u k j v) := by
  funext a
  by_cases ha : a = k
  · subst ha
    simp only [va_up_self, wE, sl]
    exact h.symm
  · simp only [va_up_ne _ _ ha, wE, sl]
theorem wE_srl {cy : Nat → ClassId} {ad : Nat → Nat} {sh : Nat → Sh} {u : Mem} {k : Nat} {f : Nat → Int64} {e : va_E} (h : sE cy ad (u.1 k) f (sh k) = e) : va_up (wE cy ad sh u) k e = wE cy ad sh (srl u k f) := by
  funext a
  by_cases ha : a = k
  · subst ha
    simp only [va_up_self, wE, srl]
    exact h.symm
  · simp only [va_up_ne _ _ ha, wE, srl]
theorem sv_seti (ad : Nat → Nat) (mi : Nat → Int32) (ml : Nat → Int64) {l : List Nat} {j : Nat} (v : Int32) (h : l[j]? = some 0) : l.mapIdx (sv ad (upd mi j v) ml) = (l.mapIdx (sv ad mi ml)).set j (.int v) := by
  apply List.ext_getElem?
  intro i
  rw [List.getElem?_set, List.getElem?_mapIdx]
  by_cases hi : j = i
  · subst hi
    obtain ⟨hlt, hv⟩ := List.getElem?_eq_some_iff.mp h
    simp [hlt, hv, sv, upd]
  · rw [if_neg hi, List.getElem?_mapIdx]
    cases hq : l[i]? with
    | none => rfl
    | some c =>
      have hne : i ≠ j := fun z => hi z.symm
      match c with
      | 0 => simp [sv, upd, hne]
      | 1 => simp [sv]
      | 2 => simp [sv, upd, hne]
      | p + 3 => simp [sv]
theorem sv_setq (ad : Nat → Nat) (mi : Nat → Int32) (ml : Nat → Int64) {l : List Nat} {j : Nat} (v : Int32) (h : l[j]? = some 2) : l.mapIdx (sv ad (upd mi j v) ml) = (l.mapIdx (sv ad mi ml)).set j (.ref (ad (5 * v.toNatClampNeg))) := by
  apply List.ext_getElem?
  intro i
  rw [List.getElem?_set, List.getElem?_mapIdx]
  by_cases hi : j = i
  · subst hi
    obtain ⟨hlt, hv⟩ := List.getElem?_eq_some_iff.mp h
    simp [hlt, hv, sv, upd]
  · rw [if_neg hi, List.getElem?_mapIdx]
    cases hq : l[i]? with
    | none => rfl
    | some c =>
      have hne : i ≠ j := fun z => hi z.symm
      match c with
      | 0 => simp [sv, upd, hne]
      | 1 => simp [sv]
      | 2 => simp [sv, upd, hne]
      | p + 3 => simp [sv]
theorem sv_setl (ad : Nat → Nat) (mi : Nat → Int32) (ml : Nat → Int64) {l : List Nat} {j : Nat} (v : Int64) (h : l[j]? = some 1) : l.mapIdx (sv ad mi (vp_updL ml j v)) = (l.mapIdx (sv ad mi ml)).set j (.long v) := by
  apply List.ext_getElem?
  intro i
  rw [List.getElem?_set, List.getElem?_mapIdx]
  by_cases hi : j = i
  · subst hi
    obtain ⟨hlt, hv⟩ := List.getElem?_eq_some_iff.mp h
    simp [hlt, hv, sv, vp_updL]
  · rw [if_neg hi, List.getElem?_mapIdx]
    cases hq : l[i]? with
    | none => rfl
    | some c =>
      have hne : i ≠ j := fun z => hi z.symm
      match c with
      | 0 => simp [sv]
      | 1 => simp [sv, vp_updL, hne]
      | 2 => simp [sv]
      | p + 3 => simp [sv]
def rA (ad : Nat → Nat) (n : Nat) : Nat → Prop := fun q => ∃ k, k < n ∧ ad k = q
def inj (ad : Nat → Nat) (n : Nat) : Prop := ∀ i j, i < n → j < n → ad i = ad j → i = j
theorem wl_D {ad : Nat → Nat} {n : Nat} {E : Nat → va_E} (h : inj ad n) : va_D (rA ad n) (wl ad n E) := by
  refine ⟨fun i j p q hi hj e => ?_, fun k q hk => ?_⟩
  · obtain ⟨h1, h2⟩ := wl_some hi
    obtain ⟨h3, h4⟩ := wl_some hj
    rw [h2, h4] at e
    exact h i j h1 h3 e
  · obtain ⟨h1, h2⟩ := wl_some hk
    exact ⟨k, h1, by rw [h2]⟩
abbrev vty (cy : Nat → ClassId) : List (ClassId × FieldType) := [(cy 0, .int), (cy 1, .boolean), (cy 2, .byte), (cy 3, .long), (cy 4, .object "StarShells$Laws"), (cy 5, .object "StarShells$Star")]
def nws : List Cond := [.methodLinkNest "StarShells$Inside" 58 yX11_cut "StarShells", .methodLinkNest "StarShells$Laws" 46 yX11_cut "StarShells", .methodLinkNest "StarShells$Star" 51 yX11_cut "StarShells"]
def nwK (U : State) : Prop := ∀ w ∈ nws, va_Nw w U
theorem nwK_warm {s U : State} (hW : s.WarmedH U.vm) (h : nwK s) : nwK U := by
  intro w hw
  have h2 := h w hw
  simp only [nws, List.mem_cons, List.not_mem_nil, or_false] at hw
  rcases hw with rfl | rfl | rfl <;> exact va_Nw.warmM hW h2
theorem nwK_same {s U : State} (hv : s.vm = U.vm) (h : nwK s) : nwK U := by
  intro w hw
  have h2 := h w hw
  simp only [nws, List.mem_cons, List.not_mem_nil, or_false] at hw
  rcases hw with rfl | rfl | rfl <;> exact va_Nw.same rfl hv h2
/-- the world of a region -/
def wv (sh : Nat → Sh) (n : Nat) (D : va_G) (cy : Nat → ClassId) (ad : Nat → Nat) (u : Mem) (U : State) : Prop := va_P D vwCl (wl ad n (wE cy ad sh u)) U.heap ∧ va_K D vwCl (vty cy) U ∧ nwK U ∧ inj ad n
def bz (b : Bool) : Int32 := if b then 1 else 0
def Cx (n : Nat) (D : va_G) (cy : Nat → ClassId) (ad : Nat → Nat) (nL : Nat) (cc : ByteArray) (own : String) (R : Room) (p : Program) (s : State) (m : MethodId) (args : Array Value) (c : Code) : Prop :=
  p.tables.exec = Jvm.exec ∧ c.code = cc ∧ c.maxLocals = nL ∧ s.vm.findClass own = some m.cls ∧ (∀ w ∈ gw, w.before args s = true) ∧ va_K D vwCl (vty cy) s ∧ nwK s ∧ inj ad n ∧ True
def V (sh : Nat → Sh) (n : Nat) (D : va_G) (cy : Nat → ClassId) (ad : Nat → Nat) (nL : Nat) (p : Program) (l : Launch) (e : Env) (R : Room) (s : State) (m : MethodId) (args : Array Value) (below : List Frame) (meth : Method) (c : Code) (Q : State → Prop) (pc : Nat) (lv : List (Nat × Value)) (st : List Value) (u : Mem) : Prop :=
  ∀ (H : Heap) (locs : List Loc) (la : Array Slot), va_P D vwCl (wl ad n (wE cy ad sh u)) H → va_S (rA ad n) s.heap H locs → lv_has la nL lv → W p l e R s m args below meth c H locs 0 0 Q (F0 m pc la st)
theorem gw_of {w : Cond} (h : w ∈ lw_tbl) (g : goodWord w = true) : w ∈ gw := List.mem_filter.mpr ⟨h, g⟩
theorem gw_good : ∀ w ∈ gw, (w.onTables && w.keeps) = true ∨ ∃ ty, w = .arrayClass ty := fun w h => good_of_word (List.mem_filter.mp h).2
theorem gw_call {y : MethodName} {b : ByteArray} {k : Nat} {r : Option FieldType} (h : Cond.code y b k r ∈ gw) : GoodIn gw (.code y b k r :: gw) := by
  intro w hw
  rcases List.mem_cons.mp hw with rfl | hw
  · exact ⟨h, gw_good _ h⟩
  · exact ⟨hw, gw_good _ hw⟩
/-- a field that a method of 'own' links at 'index': slot j of class ci -/
def fdW (own : String) (index ci j : Nat) : Prop := ∃ (C : String) (T : u_T) (N : Nat), vwCl[ci]? = some (C, T, N) ∧ (∀ w ∈ u_ws C T N, w ∈ gw) ∧ j < N ∧ Cond.fieldLink own index (T j).1 (T j).2.1 (T j).2.2.1 ∈ gw
def fpW (own : String) (index ci j : Nat) (ty : FieldType) : Prop := ∃ (C : String) (T : u_T) (N : Nat) (t0 : Nat → FieldType), vwCl[ci]? = some (C, T, N) ∧ (∀ w ∈ u_ws C T N, w ∈ gw) ∧ j < N ∧ Cond.fieldLink own index (T j).1 (T j).2.1 (T j).2.2.1 ∈ gw ∧ (∀ k, k < N → parseFieldDescriptor (T k).2.2.1 = some (t0 k)) ∧ (∀ a, a < N → ∀ b, b < N → a ≠ b → (T a).2.1 ≠ (T b).2.1) ∧ (T j).2.2.2 = false ∧ parseFieldDescriptor (T j).2.2.1 = some ty
/-- place k of a region has shape S -/
def Pl (sh : Nat → Sh) (n k : Nat) (S : Sh) : Prop := k < n ∧ sh k = S
abbrev inB (i : Int32) (n : Nat) : Prop := 0 ≤ i.toInt ∧ i.toInt < (n : Int)
theorem inB_vp {i : Int32} {n : Nat} (h : inB i n) : vp_in i n := vp_in_iff.mpr h
theorem inB_lt {i : Int32} {n : Nat} (h : inB i n) : i.toNatClampNeg < n := by
  have h2 := inB_vp h
  exact Nat.not_le.mp fun q => h2 (Or.inr q)

section VR
variable {sh : Nat → Sh} {n : Nat} {D : va_G} {cy : Nat → ClassId} {ad : Nat → Nat} {nL : Nat} {cc : ByteArray} {own : String} {p : Program} {l : Launch} {e : Env} {R : Room} {s : State} {m : MethodId} {args : Array Value} {below : List Frame} {meth : Method} {c : Code} {Q : State → Prop} {pc : Nat} {lv : List (Nat × Value)} {st : List Value} {u : Mem} {O : Type} {out : O}
theorem v_iconst (C : Cx n D cy ad nL cc own R p s m args c) {n0 : Int} {v : Int32} (hd : decode cc pc = .ok (.iconst n0, 1)) (hv : Int32.ofInt n0 = v) (k : V sh n D cy ad nL p l e R s m args below meth c Q (pc + 1) (lv) (.int v :: st) (u)) : V sh n D cy ad nL p l e R s m args below meth c Q (pc) (lv) (st) (u) := fun H locs la hP hS hl => lv_iconst C.1 C.2.1 hd hv (k H locs la hP hS hl)
theorem v_bipush (C : Cx n D cy ad nL cc own R p s m args c) {n0 : Int} {v : Int32} (hd : decode cc pc = .ok (.bipush n0, 2)) (hv : (Int8.ofInt n0).toInt32 = v) (k : V sh n D cy ad nL p l e R s m args below meth c Q (pc + 2) (lv) (.int v :: st) (u)) : V sh n D cy ad nL p l e R s m args below meth c Q (pc) (lv) (st) (u) := fun H locs la hP hS hl => lv_bipush C.1 C.2.1 hd hv (k H locs la hP hS hl)
theorem v_sipush (C : Cx n D cy ad nL cc own R p s m args c) {n0 : Int} {v : Int32} (hd : decode cc pc = .ok (.sipush n0, 3)) (hv : (Int16.ofInt n0).toInt32 = v) (k : V sh n D cy ad nL p l e R s m args below meth c Q (pc + 3) (lv) (.int v :: st) (u)) : V sh n D cy ad nL p l e R s m args below meth c Q (pc) (lv) (st) (u) := fun H locs la hP hS hl => lv_sipush C.1 C.2.1 hd hv (k H locs la hP hS hl)
theorem v_lconst (C : Cx n D cy ad nL cc own R p s m args c) {n0 : Fin 2} {v : Int64} (hd : decode cc pc = .ok (.lconst n0, 1)) (hv : Int64.ofNat (n0 : Nat) = v) (k : V sh n D cy ad nL p l e R s m args below meth c Q (pc + 1) (lv) (.long v :: st) (u)) : V sh n D cy ad nL p l e R s m args below meth c Q (pc) (lv) (st) (u) := fun H locs la hP hS hl => lv_lconst C.1 C.2.1 hd hv (k H locs la hP hS hl)
theorem v_ldc (C : Cx n D cy ad nL cc own R p s m args c) {index : Nat} {v : Int32} (hw : Cond.constant own index v ∈ gw) (hd : decode cc pc = .ok (.ldc index, 2)) (k : V sh n D cy ad nL p l e R s m args below meth c Q (pc + 2) (lv) (.int v :: st) (u)) : V sh n D cy ad nL p l e R s m args below meth c Q (pc) (lv) (st) (u) := fun H locs la hP hS hl => lv_ldc C.1 C.2.1 C.2.2.2.1 (C.2.2.2.2.1 _ hw) hd (k H locs la hP hS hl)
theorem v_ldc2 (C : Cx n D cy ad nL cc own R p s m args c) {index : Nat} {v : Int64} (hw : Cond.constantLong own index v ∈ gw) (hd : decode cc pc = .ok (.ldc2_w index, 3)) (k : V sh n D cy ad nL p l e R s m args below meth c Q (pc + 3) (lv) (.long v :: st) (u)) : V sh n D cy ad nL p l e R s m args below meth c Q (pc) (lv) (st) (u) := fun H locs la hP hS hl => lv_ldc2 C.1 C.2.1 C.2.2.2.1 (C.2.2.2.2.1 _ hw) hd (k H locs la hP hS hl)
theorem v_iload_n (C : Cx n D cy ad nL cc own R p s m args c) (q : Nat) {k0 : Fin 4} {i : Nat} {x : Int32} (hd : decode cc pc = .ok (.iload_n k0, 1)) (hi : (k0 : Nat) = i) (hq : lv[q]? = some (i, .int x)) (k : V sh n D cy ad nL p l e R s m args below meth c Q (pc + 1) (lv) (.int x :: st) (u)) : V sh n D cy ad nL p l e R s m args below meth c Q (pc) (lv) (st) (u) := fun H locs la hP hS hl => lv_iload_n C.1 C.2.1 hd hi (lv_at hl q hq) (k H locs la hP hS hl)
theorem v_iload (C : Cx n D cy ad nL cc own R p s m args c) (q : Nat) {i : Nat} {x : Int32} (hd : decode cc pc = .ok (.iload i, 2)) (hq : lv[q]? = some (i, .int x)) (k : V sh n D cy ad nL p l e R s m args below meth c Q (pc + 2) (lv) (.int x :: st) (u)) : V sh n D cy ad nL p l e R s m args below meth c Q (pc) (lv) (st) (u) := fun H locs la hP hS hl => lv_iload C.1 C.2.1 hd (lv_at hl q hq) (k H locs la hP hS hl)
theorem v_istore_n (C : Cx n D cy ad nL cc own R p s m args c) {k0 : Fin 4} {i : Nat} {x : Int32} (lv2 : List (Nat × Value)) (hd : decode cc pc = .ok (.istore_n k0, 1)) (hi : (k0 : Nat) = i) (hn : i < nL) (hq : (i, .int x) :: lv.filter (fun q => !(q.1 == i) && !(q.1 + 1 == i && q.2.category == 2)) = lv2) (k : V sh n D cy ad nL p l e R s m args below meth c Q (pc + 1) (lv2) (st) (u)) : V sh n D cy ad nL p l e R s m args below meth c Q (pc) (lv) (.int x :: st) (u) := fun H locs la hP hS hl => lv_istore_n C.1 C.2.1 hd hi hl hn hq (fun la2 hl2 => k H locs la2 hP hS hl2)
theorem v_istore (C : Cx n D cy ad nL cc own R p s m args c) {i : Nat} {x : Int32} (lv2 : List (Nat × Value)) (hd : decode cc pc = .ok (.istore i, 2)) (hn : i < nL) (hq : (i, .int x) :: lv.filter (fun q => !(q.1 == i) && !(q.1 + 1 == i && q.2.category == 2)) = lv2) (k : V sh n D cy ad nL p l e R s m args below meth c Q (pc + 2) (lv2) (st) (u)) : V sh n D cy ad nL p l e R s m args below meth c Q (pc) (lv) (.int x :: st) (u) := fun H locs la hP hS hl => lv_istore C.1 C.2.1 hd hl hn hq (fun la2 hl2 => k H locs la2 hP hS hl2)
theorem v_lload_n (C : Cx n D cy ad nL cc own R p s m args c) (q : Nat) {k0 : Fin 4} {i : Nat} {x : Int64} (hd : decode cc pc = .ok (.lload_n k0, 1)) (hi : (k0 : Nat) = i) (hq : lv[q]? = some (i, .long x)) (k : V sh n D cy ad nL p l e R s m args below meth c Q (pc + 1) (lv) (.long x :: st) (u)) : V sh n D cy ad nL p l e R s m args below meth c Q (pc) (lv) (st) (u) := fun H locs la hP hS hl => lv_lload_n C.1 C.2.1 hd hi (lv_at hl q hq) (k H locs la hP hS hl)
theorem v_lload (C : Cx n D cy ad nL cc own R p s m args c) (q : Nat) {i : Nat} {x : Int64} (hd : decode cc pc = .ok (.lload i, 2)) (hq : lv[q]? = some (i, .long x)) (k : V sh n D cy ad nL p l e R s m args below meth c Q (pc + 2) (lv) (.long x :: st) (u)) : V sh n D cy ad nL p l e R s m args below meth c Q (pc) (lv) (st) (u) := fun H locs la hP hS hl => lv_lload C.1 C.2.1 hd (lv_at hl q hq) (k H locs la hP hS hl)
theorem v_lstore_n (C : Cx n D cy ad nL cc own R p s m args c) {k0 : Fin 4} {i : Nat} {x : Int64} (lv2 : List (Nat × Value)) (hd : decode cc pc = .ok (.lstore_n k0, 1)) (hi : (k0 : Nat) = i) (hn : i + 1 < nL) (hq : (i, .long x) :: lv.filter (fun q => !(q.1 == i) && (!(q.1 == i + 1) && !(q.1 + 1 == i && q.2.category == 2))) = lv2) (k : V sh n D cy ad nL p l e R s m args below meth c Q (pc + 1) (lv2) (st) (u)) : V sh n D cy ad nL p l e R s m args below meth c Q (pc) (lv) (.long x :: st) (u) := fun H locs la hP hS hl => lv_lstore_n C.1 C.2.1 hd hi hl hn hq (fun la2 hl2 => k H locs la2 hP hS hl2)
theorem v_lstore (C : Cx n D cy ad nL cc own R p s m args c) {i : Nat} {x : Int64} (lv2 : List (Nat × Value)) (hd : decode cc pc = .ok (.lstore i, 2)) (hn : i + 1 < nL) (hq : (i, .long x) :: lv.filter (fun q => !(q.1 == i) && (!(q.1 == i + 1) && !(q.1 + 1 == i && q.2.category == 2))) = lv2) (k : V sh n D cy ad nL p l e R s m args below meth c Q (pc + 2) (lv2) (st) (u)) : V sh n D cy ad nL p l e R s m args below meth c Q (pc) (lv) (.long x :: st) (u) := fun H locs la hP hS hl => lv_lstore C.1 C.2.1 hd hl hn hq (fun la2 hl2 => k H locs la2 hP hS hl2)
theorem v_aload_n (C : Cx n D cy ad nL cc own R p s m args c) (q : Nat) {k0 : Fin 4} {i : Nat} {x : Nat} (hd : decode cc pc = .ok (.aload_n k0, 1)) (hi : (k0 : Nat) = i) (hq : lv[q]? = some (i, .ref x)) (k : V sh n D cy ad nL p l e R s m args below meth c Q (pc + 1) (lv) (.ref x :: st) (u)) : V sh n D cy ad nL p l e R s m args below meth c Q (pc) (lv) (st) (u) := fun H locs la hP hS hl => lv_aload_n C.1 C.2.1 hd hi (lv_at hl q hq) (k H locs la hP hS hl)
theorem v_aload (C : Cx n D cy ad nL cc own R p s m args c) (q : Nat) {i : Nat} {x : Nat} (hd : decode cc pc = .ok (.aload i, 2)) (hq : lv[q]? = some (i, .ref x)) (k : V sh n D cy ad nL p l e R s m args below meth c Q (pc + 2) (lv) (.ref x :: st) (u)) : V sh n D cy ad nL p l e R s m args below meth c Q (pc) (lv) (st) (u) := fun H locs la hP hS hl => lv_aload C.1 C.2.1 hd (lv_at hl q hq) (k H locs la hP hS hl)
theorem v_astore_n (C : Cx n D cy ad nL cc own R p s m args c) {k0 : Fin 4} {i : Nat} {x : Nat} (lv2 : List (Nat × Value)) (hd : decode cc pc = .ok (.astore_n k0, 1)) (hi : (k0 : Nat) = i) (hn : i < nL) (hq : (i, .ref x) :: lv.filter (fun q => !(q.1 == i) && !(q.1 + 1 == i && q.2.category == 2)) = lv2) (k : V sh n D cy ad nL p l e R s m args below meth c Q (pc + 1) (lv2) (st) (u)) : V sh n D cy ad nL p l e R s m args below meth c Q (pc) (lv) (.ref x :: st) (u) := fun H locs la hP hS hl => lv_astore_n C.1 C.2.1 hd hi hl hn hq (fun la2 hl2 => k H locs la2 hP hS hl2)
theorem v_astore (C : Cx n D cy ad nL cc own R p s m args c) {i : Nat} {x : Nat} (lv2 : List (Nat × Value)) (hd : decode cc pc = .ok (.astore i, 2)) (hn : i < nL) (hq : (i, .ref x) :: lv.filter (fun q => !(q.1 == i) && !(q.1 + 1 == i && q.2.category == 2)) = lv2) (k : V sh n D cy ad nL p l e R s m args below meth c Q (pc + 2) (lv2) (st) (u)) : V sh n D cy ad nL p l e R s m args below meth c Q (pc) (lv) (.ref x :: st) (u) := fun H locs la hP hS hl => lv_astore C.1 C.2.1 hd hl hn hq (fun la2 hl2 => k H locs la2 hP hS hl2)
theorem v_iinc (C : Cx n D cy ad nL cc own R p s m args c) (q : Nat) {i : Nat} {n0 : Int} {x v : Int32} (lv2 : List (Nat × Value)) (hd : decode cc pc = .ok (.iinc i n0, 3)) (hk : lv[q]? = some (i, .int x)) (hv : x + Int32.ofInt n0 = v) (hn : i < nL) (hq : (i, Value.int v) :: lv.filter (fun q => !(q.1 == i) && !(q.1 + 1 == i && q.2.category == 2)) = lv2) (k : V sh n D cy ad nL p l e R s m args below meth c Q (pc + 3) (lv2) (st) (u)) : V sh n D cy ad nL p l e R s m args below meth c Q (pc) (lv) (st) (u) := fun H locs la hP hS hl => lv_iinc C.1 C.2.1 hd hl hk hv hn hq (fun la2 hl2 => k H locs la2 hP hS hl2)
theorem v_iadd (C : Cx n D cy ad nL cc own R p s m args c) {x y : Int32} (hd : decode cc pc = .ok (.iadd, 1)) (k : V sh n D cy ad nL p l e R s m args below meth c Q (pc + 1) (lv) (.int (x + y) :: st) (u)) : V sh n D cy ad nL p l e R s m args below meth c Q (pc) (lv) (.int y :: .int x :: st) (u) := fun H locs la hP hS hl => lv_iadd C.1 C.2.1 hd (k H locs la hP hS hl)
theorem v_isub (C : Cx n D cy ad nL cc own R p s m args c) {x y : Int32} (hd : decode cc pc = .ok (.isub, 1)) (k : V sh n D cy ad nL p l e R s m args below meth c Q (pc + 1) (lv) (.int (x - y) :: st) (u)) : V sh n D cy ad nL p l e R s m args below meth c Q (pc) (lv) (.int y :: .int x :: st) (u) := fun H locs la hP hS hl => lv_isub C.1 C.2.1 hd (k H locs la hP hS hl)
theorem v_imul (C : Cx n D cy ad nL cc own R p s m args c) {x y : Int32} (hd : decode cc pc = .ok (.imul, 1)) (k : V sh n D cy ad nL p l e R s m args below meth c Q (pc + 1) (lv) (.int (x * y) :: st) (u)) : V sh n D cy ad nL p l e R s m args below meth c Q (pc) (lv) (.int y :: .int x :: st) (u) := fun H locs la hP hS hl => lv_imul C.1 C.2.1 hd (k H locs la hP hS hl)
theorem v_iand (C : Cx n D cy ad nL cc own R p s m args c) {x y : Int32} (hd : decode cc pc = .ok (.iand, 1)) (k : V sh n D cy ad nL p l e R s m args below meth c Q (pc + 1) (lv) (.int (x &&& y) :: st) (u)) : V sh n D cy ad nL p l e R s m args below meth c Q (pc) (lv) (.int y :: .int x :: st) (u) := fun H locs la hP hS hl => lv_iand C.1 C.2.1 hd (k H locs la hP hS hl)
theorem v_ior (C : Cx n D cy ad nL cc own R p s m args c) {x y : Int32} (hd : decode cc pc = .ok (.ior, 1)) (k : V sh n D cy ad nL p l e R s m args below meth c Q (pc + 1) (lv) (.int (x ||| y) :: st) (u)) : V sh n D cy ad nL p l e R s m args below meth c Q (pc) (lv) (.int y :: .int x :: st) (u) := fun H locs la hP hS hl => lv_ior C.1 C.2.1 hd (k H locs la hP hS hl)
theorem v_ixor (C : Cx n D cy ad nL cc own R p s m args c) {x y : Int32} (hd : decode cc pc = .ok (.ixor, 1)) (k : V sh n D cy ad nL p l e R s m args below meth c Q (pc + 1) (lv) (.int (x ^^^ y) :: st) (u)) : V sh n D cy ad nL p l e R s m args below meth c Q (pc) (lv) (.int y :: .int x :: st) (u) := fun H locs la hP hS hl => lv_ixor C.1 C.2.1 hd (k H locs la hP hS hl)
theorem v_ladd (C : Cx n D cy ad nL cc own R p s m args c) {x y : Int64} (hd : decode cc pc = .ok (.ladd, 1)) (k : V sh n D cy ad nL p l e R s m args below meth c Q (pc + 1) (lv) (.long (x + y) :: st) (u)) : V sh n D cy ad nL p l e R s m args below meth c Q (pc) (lv) (.long y :: .long x :: st) (u) := fun H locs la hP hS hl => lv_ladd C.1 C.2.1 hd (k H locs la hP hS hl)
theorem v_lsub (C : Cx n D cy ad nL cc own R p s m args c) {x y : Int64} (hd : decode cc pc = .ok (.lsub, 1)) (k : V sh n D cy ad nL p l e R s m args below meth c Q (pc + 1) (lv) (.long (x - y) :: st) (u)) : V sh n D cy ad nL p l e R s m args below meth c Q (pc) (lv) (.long y :: .long x :: st) (u) := fun H locs la hP hS hl => lv_lsub C.1 C.2.1 hd (k H locs la hP hS hl)
theorem v_lmul (C : Cx n D cy ad nL cc own R p s m args c) {x y : Int64} (hd : decode cc pc = .ok (.lmul, 1)) (k : V sh n D cy ad nL p l e R s m args below meth c Q (pc + 1) (lv) (.long (x * y) :: st) (u)) : V sh n D cy ad nL p l e R s m args below meth c Q (pc) (lv) (.long y :: .long x :: st) (u) := fun H locs la hP hS hl => lv_lmul C.1 C.2.1 hd (k H locs la hP hS hl)
theorem v_land (C : Cx n D cy ad nL cc own R p s m args c) {x y : Int64} (hd : decode cc pc = .ok (.land, 1)) (k : V sh n D cy ad nL p l e R s m args below meth c Q (pc + 1) (lv) (.long (x &&& y) :: st) (u)) : V sh n D cy ad nL p l e R s m args below meth c Q (pc) (lv) (.long y :: .long x :: st) (u) := fun H locs la hP hS hl => lv_land C.1 C.2.1 hd (k H locs la hP hS hl)
theorem v_lor (C : Cx n D cy ad nL cc own R p s m args c) {x y : Int64} (hd : decode cc pc = .ok (.lor, 1)) (k : V sh n D cy ad nL p l e R s m args below meth c Q (pc + 1) (lv) (.long (x ||| y) :: st) (u)) : V sh n D cy ad nL p l e R s m args below meth c Q (pc) (lv) (.long y :: .long x :: st) (u) := fun H locs la hP hS hl => lv_lor C.1 C.2.1 hd (k H locs la hP hS hl)
theorem v_lxor (C : Cx n D cy ad nL cc own R p s m args c) {x y : Int64} (hd : decode cc pc = .ok (.lxor, 1)) (k : V sh n D cy ad nL p l e R s m args below meth c Q (pc + 1) (lv) (.long (x ^^^ y) :: st) (u)) : V sh n D cy ad nL p l e R s m args below meth c Q (pc) (lv) (.long y :: .long x :: st) (u) := fun H locs la hP hS hl => lv_lxor C.1 C.2.1 hd (k H locs la hP hS hl)
theorem v_lneg (C : Cx n D cy ad nL cc own R p s m args c) {x : Int64} (hd : decode cc pc = .ok (.lneg, 1)) (k : V sh n D cy ad nL p l e R s m args below meth c Q (pc + 1) (lv) (.long (-x) :: st) (u)) : V sh n D cy ad nL p l e R s m args below meth c Q (pc) (lv) (.long x :: st) (u) := fun H locs la hP hS hl => lv_lneg C.1 C.2.1 hd (k H locs la hP hS hl)
theorem v_ineg (C : Cx n D cy ad nL cc own R p s m args c) {x : Int32} (hd : decode cc pc = .ok (.ineg, 1)) (k : V sh n D cy ad nL p l e R s m args below meth c Q (pc + 1) (lv) (.int (-x) :: st) (u)) : V sh n D cy ad nL p l e R s m args below meth c Q (pc) (lv) (.int x :: st) (u) := fun H locs la hP hS hl => lv_ineg C.1 C.2.1 hd (k H locs la hP hS hl)
theorem v_ishr (C : Cx n D cy ad nL cc own R p s m args c) {x y : Int32} (hd : decode cc pc = .ok (.ishr, 1)) (k : V sh n D cy ad nL p l e R s m args below meth c Q (pc + 1) (lv) (.int (x >>> (y &&& 31)) :: st) (u)) : V sh n D cy ad nL p l e R s m args below meth c Q (pc) (lv) (.int y :: .int x :: st) (u) := fun H locs la hP hS hl => lv_ishr C.1 C.2.1 hd (k H locs la hP hS hl)
theorem v_i2l (C : Cx n D cy ad nL cc own R p s m args c) {x : Int32} (hd : decode cc pc = .ok (.i2l, 1)) (k : V sh n D cy ad nL p l e R s m args below meth c Q (pc + 1) (lv) (.long x.toInt64 :: st) (u)) : V sh n D cy ad nL p l e R s m args below meth c Q (pc) (lv) (.int x :: st) (u) := fun H locs la hP hS hl => lv_i2l C.1 C.2.1 hd rfl (k H locs la hP hS hl)
theorem v_l2i (C : Cx n D cy ad nL cc own R p s m args c) {x : Int64} (hd : decode cc pc = .ok (.l2i, 1)) (k : V sh n D cy ad nL p l e R s m args below meth c Q (pc + 1) (lv) (.int x.toInt32 :: st) (u)) : V sh n D cy ad nL p l e R s m args below meth c Q (pc) (lv) (.long x :: st) (u) := fun H locs la hP hS hl => lv_l2i C.1 C.2.1 hd rfl (k H locs la hP hS hl)
theorem v_i2b (C : Cx n D cy ad nL cc own R p s m args c) {x : Int32} (hd : decode cc pc = .ok (.i2b, 1)) (k : V sh n D cy ad nL p l e R s m args below meth c Q (pc + 1) (lv) (.int x.toInt8.toInt32 :: st) (u)) : V sh n D cy ad nL p l e R s m args below meth c Q (pc) (lv) (.int x :: st) (u) := fun H locs la hP hS hl => lv_i2b C.1 C.2.1 hd rfl (k H locs la hP hS hl)
theorem v_iushr (C : Cx n D cy ad nL cc own R p s m args c) {x y : Int32} (hd : decode cc pc = .ok (.iushr, 1)) (k : V sh n D cy ad nL p l e R s m args below meth c Q (pc + 1) (lv) (.int (x.toUInt32 >>> (y.toUInt32 &&& Int32.toUInt32 31)).toInt32 :: st) (u)) : V sh n D cy ad nL p l e R s m args below meth c Q (pc) (lv) (.int y :: .int x :: st) (u) := fun H locs la hP hS hl => lv_iushr C.1 C.2.1 hd rfl (k H locs la hP hS hl)
theorem v_lshl (C : Cx n D cy ad nL cc own R p s m args c) {x : Int64} {y : Int32} (hd : decode cc pc = .ok (.lshl, 1)) (k : V sh n D cy ad nL p l e R s m args below meth c Q (pc + 1) (lv) (.long (x <<< (y.toInt64 &&& 63)) :: st) (u)) : V sh n D cy ad nL p l e R s m args below meth c Q (pc) (lv) (.int y :: .long x :: st) (u) := fun H locs la hP hS hl => lv_lshl C.1 C.2.1 hd rfl (k H locs la hP hS hl)
theorem v_dup (C : Cx n D cy ad nL cc own R p s m args c) {va : Value} (hva : va.category = 1) (hd : decode cc pc = .ok (.dup, 1)) (k : V sh n D cy ad nL p l e R s m args below meth c Q (pc + 1) (lv) (va :: va :: st) (u)) : V sh n D cy ad nL p l e R s m args below meth c Q (pc) (lv) (va :: st) (u) := fun H locs la hP hS hl => lv_dup C.1 C.2.1 hd hva (k H locs la hP hS hl)
theorem v_pop (C : Cx n D cy ad nL cc own R p s m args c) {va : Value} (hva : va.category = 1) (hd : decode cc pc = .ok (.pop, 1)) (k : V sh n D cy ad nL p l e R s m args below meth c Q (pc + 1) (lv) (st) (u)) : V sh n D cy ad nL p l e R s m args below meth c Q (pc) (lv) (va :: st) (u) := fun H locs la hP hS hl => lv_pop C.1 C.2.1 hd hva (k H locs la hP hS hl)
theorem v_dup2 (C : Cx n D cy ad nL cc own R p s m args c) {va vb : Value} (hva : va.category = 1) (hvb : vb.category = 1) (hd : decode cc pc = .ok (.dup2, 1)) (k : V sh n D cy ad nL p l e R s m args below meth c Q (pc + 1) (lv) (va :: vb :: va :: vb :: st) (u)) : V sh n D cy ad nL p l e R s m args below meth c Q (pc) (lv) (va :: vb :: st) (u) := fun H locs la hP hS hl => lv_dup2_11 C.1 C.2.1 hd hva hvb (k H locs la hP hS hl)
theorem v_goto (C : Cx n D cy ad nL cc own R p s m args c) {off : Int} (tgt : Nat) (hd : decode cc pc = .ok (.goto off, 3)) (ht : (pc : Int) + off = (tgt : Int)) (k : V sh n D cy ad nL p l e R s m args below meth c Q (tgt) (lv) (st) (u)) : V sh n D cy ad nL p l e R s m args below meth c Q (pc) (lv) (st) (u) := fun H locs la hP hS hl =>  lv_goto C.1 C.2.1 hd ht (k H locs la hP hS hl)
theorem v_idiv (C : Cx n D cy ad nL cc own R p s m args c) {x y : Int32} {A : Option O} (hd : decode cc pc = .ok (.idiv, 1)) (h : (if y = 0 then none else A) = some out) (k : A = some out → V sh n D cy ad nL p l e R s m args below meth c Q (pc + 1) (lv) (.int (x / y) :: st) (u)) : V sh n D cy ad nL p l e R s m args below meth c Q (pc) (lv) (.int y :: .int x :: st) (u) := by
  by_cases hy : y = 0
  · rw [if_pos hy] at h; cases h
  · rw [if_neg hy] at h
    exact fun H locs la hP hS hl =>  lv_idiv C.1 C.2.1 hd hy (k h H locs la hP hS hl)
theorem v_irem (C : Cx n D cy ad nL cc own R p s m args c) {x y : Int32} {A : Option O} (hd : decode cc pc = .ok (.irem, 1)) (h : (if y = 0 then none else A) = some out) (k : A = some out → V sh n D cy ad nL p l e R s m args below meth c Q (pc + 1) (lv) (.int (x - x / y * y) :: st) (u)) : V sh n D cy ad nL p l e R s m args below meth c Q (pc) (lv) (.int y :: .int x :: st) (u) := by
  by_cases hy : y = 0
  · rw [if_pos hy] at h; cases h
  · rw [if_neg hy] at h
    exact fun H locs la hP hS hl =>  lv_irem C.1 C.2.1 hd hy (k h H locs la hP hS hl)
theorem v_ldiv (C : Cx n D cy ad nL cc own R p s m args c) {x y : Int64} {A : Option O} (hd : decode cc pc = .ok (.ldiv, 1)) (h : (if y = 0 then none else A) = some out) (k : A = some out → V sh n D cy ad nL p l e R s m args below meth c Q (pc + 1) (lv) (.long (x / y) :: st) (u)) : V sh n D cy ad nL p l e R s m args below meth c Q (pc) (lv) (.long y :: .long x :: st) (u) := by
  by_cases hy : y = 0
  · rw [if_pos hy] at h; cases h
  · rw [if_neg hy] at h
    exact fun H locs la hP hS hl =>  lv_ldiv C.1 C.2.1 hd hy (k h H locs la hP hS hl)
theorem v_lrem (C : Cx n D cy ad nL cc own R p s m args c) {x y : Int64} {A : Option O} (hd : decode cc pc = .ok (.lrem, 1)) (h : (if y = 0 then none else A) = some out) (k : A = some out → V sh n D cy ad nL p l e R s m args below meth c Q (pc + 1) (lv) (.long (x - x / y * y) :: st) (u)) : V sh n D cy ad nL p l e R s m args below meth c Q (pc) (lv) (.long y :: .long x :: st) (u) := by
  by_cases hy : y = 0
  · rw [if_pos hy] at h; cases h
  · rw [if_neg hy] at h
    exact fun H locs la hP hS hl =>  lv_lrem C.1 C.2.1 hd hy (k h H locs la hP hS hl)
theorem v_idivN (C : Cx n D cy ad nL cc own R p s m args c) {x y : Int32} (hd : decode cc pc = .ok (.idiv, 1)) (hy : ¬ y = 0) (k : V sh n D cy ad nL p l e R s m args below meth c Q (pc + 1) (lv) (.int (x / y) :: st) (u)) : V sh n D cy ad nL p l e R s m args below meth c Q (pc) (lv) (.int y :: .int x :: st) (u) := fun H locs la hP hS hl =>  lv_idiv C.1 C.2.1 hd hy (k H locs la hP hS hl)
theorem v_iremN (C : Cx n D cy ad nL cc own R p s m args c) {x y : Int32} (hd : decode cc pc = .ok (.irem, 1)) (hy : ¬ y = 0) (k : V sh n D cy ad nL p l e R s m args below meth c Q (pc + 1) (lv) (.int (x - x / y * y) :: st) (u)) : V sh n D cy ad nL p l e R s m args below meth c Q (pc) (lv) (.int y :: .int x :: st) (u) := fun H locs la hP hS hl =>  lv_irem C.1 C.2.1 hd hy (k H locs la hP hS hl)
theorem v_ldivN (C : Cx n D cy ad nL cc own R p s m args c) {x y : Int64} (hd : decode cc pc = .ok (.ldiv, 1)) (hy : ¬ y = 0) (k : V sh n D cy ad nL p l e R s m args below meth c Q (pc + 1) (lv) (.long (x / y) :: st) (u)) : V sh n D cy ad nL p l e R s m args below meth c Q (pc) (lv) (.long y :: .long x :: st) (u) := fun H locs la hP hS hl =>  lv_ldiv C.1 C.2.1 hd hy (k H locs la hP hS hl)
theorem v_if_eq (C : Cx n D cy ad nL cc own R p s m args c) {x : Int32} {A B : Option O} {off : Int} (tgt : Nat) (hd : decode cc pc = .ok (.ifCond .eq off, 3)) (ht : (pc : Int) + off = (tgt : Int)) (h : (if x = 0 then A else B) = some out) (k1 : A = some out → V sh n D cy ad nL p l e R s m args below meth c Q (tgt) (lv) (st) (u)) (k2 : B = some out → V sh n D cy ad nL p l e R s m args below meth c Q (pc + 3) (lv) (st) (u)) : V sh n D cy ad nL p l e R s m args below meth c Q (pc) (lv) (.int x :: st) (u) :=
  fun H locs la hP hS hl =>  lv_if_eq C.1 C.2.1 hd ht (fun z => k1 (by rw [if_pos z] at h; exact h) H locs la hP hS hl) (fun z => k2 (by rw [if_neg z] at h; exact h) H locs la hP hS hl)
theorem v_if_ne (C : Cx n D cy ad nL cc own R p s m args c) {x : Int32} {A B : Option O} {off : Int} (tgt : Nat) (hd : decode cc pc = .ok (.ifCond .ne off, 3)) (ht : (pc : Int) + off = (tgt : Int)) (h : (if x = 0 then A else B) = some out) (k1 : A = some out → V sh n D cy ad nL p l e R s m args below meth c Q (pc + 3) (lv) (st) (u)) (k2 : B = some out → V sh n D cy ad nL p l e R s m args below meth c Q (tgt) (lv) (st) (u)) : V sh n D cy ad nL p l e R s m args below meth c Q (pc) (lv) (.int x :: st) (u) :=
  fun H locs la hP hS hl =>  lv_if_ne C.1 C.2.1 hd ht (fun z => k2 (by rw [if_neg z] at h; exact h) H locs la hP hS hl) (fun z => k1 (by rw [if_pos z] at h; exact h) H locs la hP hS hl)
theorem v_if_lt (C : Cx n D cy ad nL cc own R p s m args c) {x : Int32} {A B : Option O} {off : Int} (tgt : Nat) (hd : decode cc pc = .ok (.ifCond .lt off, 3)) (ht : (pc : Int) + off = (tgt : Int)) (h : (if x < 0 then A else B) = some out) (k1 : A = some out → V sh n D cy ad nL p l e R s m args below meth c Q (tgt) (lv) (st) (u)) (k2 : B = some out → V sh n D cy ad nL p l e R s m args below meth c Q (pc + 3) (lv) (st) (u)) : V sh n D cy ad nL p l e R s m args below meth c Q (pc) (lv) (.int x :: st) (u) :=
  fun H locs la hP hS hl =>  lv_if_lt C.1 C.2.1 hd ht (fun z => k1 (by rw [if_pos z] at h; exact h) H locs la hP hS hl) (fun z => k2 (by rw [if_neg z] at h; exact h) H locs la hP hS hl)
theorem v_if_ge (C : Cx n D cy ad nL cc own R p s m args c) {x : Int32} {A B : Option O} {off : Int} (tgt : Nat) (hd : decode cc pc = .ok (.ifCond .ge off, 3)) (ht : (pc : Int) + off = (tgt : Int)) (h : (if 0 ≤ x then A else B) = some out) (k1 : A = some out → V sh n D cy ad nL p l e R s m args below meth c Q (tgt) (lv) (st) (u)) (k2 : B = some out → V sh n D cy ad nL p l e R s m args below meth c Q (pc + 3) (lv) (st) (u)) : V sh n D cy ad nL p l e R s m args below meth c Q (pc) (lv) (.int x :: st) (u) :=
  fun H locs la hP hS hl =>  lv_if_ge C.1 C.2.1 hd ht (fun z => k1 (by rw [if_pos z] at h; exact h) H locs la hP hS hl) (fun z => k2 (by rw [if_neg z] at h; exact h) H locs la hP hS hl)
theorem v_if_gt (C : Cx n D cy ad nL cc own R p s m args c) {x : Int32} {A B : Option O} {off : Int} (tgt : Nat) (hd : decode cc pc = .ok (.ifCond .gt off, 3)) (ht : (pc : Int) + off = (tgt : Int)) (h : (if 0 < x then A else B) = some out) (k1 : A = some out → V sh n D cy ad nL p l e R s m args below meth c Q (tgt) (lv) (st) (u)) (k2 : B = some out → V sh n D cy ad nL p l e R s m args below meth c Q (pc + 3) (lv) (st) (u)) : V sh n D cy ad nL p l e R s m args below meth c Q (pc) (lv) (.int x :: st) (u) :=
  fun H locs la hP hS hl =>  lv_if_gt C.1 C.2.1 hd ht (fun z => k1 (by rw [if_pos z] at h; exact h) H locs la hP hS hl) (fun z => k2 (by rw [if_neg z] at h; exact h) H locs la hP hS hl)
theorem v_if_le (C : Cx n D cy ad nL cc own R p s m args c) {x : Int32} {A B : Option O} {off : Int} (tgt : Nat) (hd : decode cc pc = .ok (.ifCond .le off, 3)) (ht : (pc : Int) + off = (tgt : Int)) (h : (if x ≤ 0 then A else B) = some out) (k1 : A = some out → V sh n D cy ad nL p l e R s m args below meth c Q (tgt) (lv) (st) (u)) (k2 : B = some out → V sh n D cy ad nL p l e R s m args below meth c Q (pc + 3) (lv) (st) (u)) : V sh n D cy ad nL p l e R s m args below meth c Q (pc) (lv) (.int x :: st) (u) :=
  fun H locs la hP hS hl =>  lv_if_le C.1 C.2.1 hd ht (fun z => k1 (by rw [if_pos z] at h; exact h) H locs la hP hS hl) (fun z => k2 (by rw [if_neg z] at h; exact h) H locs la hP hS hl)
theorem v_icmp_eq (C : Cx n D cy ad nL cc own R p s m args c) {x y : Int32} {A B : Option O} {off : Int} (tgt : Nat) (hd : decode cc pc = .ok (.if_icmp .eq off, 3)) (ht : (pc : Int) + off = (tgt : Int)) (h : (if x = y then A else B) = some out) (k1 : A = some out → V sh n D cy ad nL p l e R s m args below meth c Q (tgt) (lv) (st) (u)) (k2 : B = some out → V sh n D cy ad nL p l e R s m args below meth c Q (pc + 3) (lv) (st) (u)) : V sh n D cy ad nL p l e R s m args below meth c Q (pc) (lv) (.int y :: .int x :: st) (u) :=
  fun H locs la hP hS hl =>  lv_icmp_eq C.1 C.2.1 hd ht (fun z => k1 (by rw [if_pos z] at h; exact h) H locs la hP hS hl) (fun z => k2 (by rw [if_neg z] at h; exact h) H locs la hP hS hl)
theorem v_icmp_ne (C : Cx n D cy ad nL cc own R p s m args c) {x y : Int32} {A B : Option O} {off : Int} (tgt : Nat) (hd : decode cc pc = .ok (.if_icmp .ne off, 3)) (ht : (pc : Int) + off = (tgt : Int)) (h : (if x = y then A else B) = some out) (k1 : A = some out → V sh n D cy ad nL p l e R s m args below meth c Q (pc + 3) (lv) (st) (u)) (k2 : B = some out → V sh n D cy ad nL p l e R s m args below meth c Q (tgt) (lv) (st) (u)) : V sh n D cy ad nL p l e R s m args below meth c Q (pc) (lv) (.int y :: .int x :: st) (u) :=
  fun H locs la hP hS hl =>  lv_icmp_ne C.1 C.2.1 hd ht (fun z => k2 (by rw [if_neg z] at h; exact h) H locs la hP hS hl) (fun z => k1 (by rw [if_pos z] at h; exact h) H locs la hP hS hl)
theorem v_icmp_lt (C : Cx n D cy ad nL cc own R p s m args c) {x y : Int32} {A B : Option O} {off : Int} (tgt : Nat) (hd : decode cc pc = .ok (.if_icmp .lt off, 3)) (ht : (pc : Int) + off = (tgt : Int)) (h : (if x < y then A else B) = some out) (k1 : A = some out → V sh n D cy ad nL p l e R s m args below meth c Q (tgt) (lv) (st) (u)) (k2 : B = some out → V sh n D cy ad nL p l e R s m args below meth c Q (pc + 3) (lv) (st) (u)) : V sh n D cy ad nL p l e R s m args below meth c Q (pc) (lv) (.int y :: .int x :: st) (u) :=
  fun H locs la hP hS hl =>  lv_icmp_lt C.1 C.2.1 hd ht (fun z => k1 (by rw [if_pos z] at h; exact h) H locs la hP hS hl) (fun z => k2 (by rw [if_neg z] at h; exact h) H locs la hP hS hl)
theorem v_icmp_ge (C : Cx n D cy ad nL cc own R p s m args c) {x y : Int32} {A B : Option O} {off : Int} (tgt : Nat) (hd : decode cc pc = .ok (.if_icmp .ge off, 3)) (ht : (pc : Int) + off = (tgt : Int)) (h : (if y ≤ x then A else B) = some out) (k1 : A = some out → V sh n D cy ad nL p l e R s m args below meth c Q (tgt) (lv) (st) (u)) (k2 : B = some out → V sh n D cy ad nL p l e R s m args below meth c Q (pc + 3) (lv) (st) (u)) : V sh n D cy ad nL p l e R s m args below meth c Q (pc) (lv) (.int y :: .int x :: st) (u) :=
  fun H locs la hP hS hl =>  lv_icmp_ge C.1 C.2.1 hd ht (fun z => k1 (by rw [if_pos z] at h; exact h) H locs la hP hS hl) (fun z => k2 (by rw [if_neg z] at h; exact h) H locs la hP hS hl)
theorem v_icmp_gt (C : Cx n D cy ad nL cc own R p s m args c) {x y : Int32} {A B : Option O} {off : Int} (tgt : Nat) (hd : decode cc pc = .ok (.if_icmp .gt off, 3)) (ht : (pc : Int) + off = (tgt : Int)) (h : (if y < x then A else B) = some out) (k1 : A = some out → V sh n D cy ad nL p l e R s m args below meth c Q (tgt) (lv) (st) (u)) (k2 : B = some out → V sh n D cy ad nL p l e R s m args below meth c Q (pc + 3) (lv) (st) (u)) : V sh n D cy ad nL p l e R s m args below meth c Q (pc) (lv) (.int y :: .int x :: st) (u) :=
  fun H locs la hP hS hl =>  lv_icmp_gt C.1 C.2.1 hd ht (fun z => k1 (by rw [if_pos z] at h; exact h) H locs la hP hS hl) (fun z => k2 (by rw [if_neg z] at h; exact h) H locs la hP hS hl)
theorem v_icmp_le (C : Cx n D cy ad nL cc own R p s m args c) {x y : Int32} {A B : Option O} {off : Int} (tgt : Nat) (hd : decode cc pc = .ok (.if_icmp .le off, 3)) (ht : (pc : Int) + off = (tgt : Int)) (h : (if x ≤ y then A else B) = some out) (k1 : A = some out → V sh n D cy ad nL p l e R s m args below meth c Q (tgt) (lv) (st) (u)) (k2 : B = some out → V sh n D cy ad nL p l e R s m args below meth c Q (pc + 3) (lv) (st) (u)) : V sh n D cy ad nL p l e R s m args below meth c Q (pc) (lv) (.int y :: .int x :: st) (u) :=
  fun H locs la hP hS hl =>  lv_icmp_le C.1 C.2.1 hd ht (fun z => k1 (by rw [if_pos z] at h; exact h) H locs la hP hS hl) (fun z => k2 (by rw [if_neg z] at h; exact h) H locs la hP hS hl)
theorem bz_eq (b : Bool) : bz b = 0 ↔ ¬ b = true := by cases b <;> simp [bz]
theorem v_z_eq (C : Cx n D cy ad nL cc own R p s m args c) {b : Bool} {A B : Option O} {off : Int} (tgt : Nat) (hd : decode cc pc = .ok (.ifCond .eq off, 3)) (ht : (pc : Int) + off = (tgt : Int)) (h : (if b = true then A else B) = some out) (k1 : A = some out → V sh n D cy ad nL p l e R s m args below meth c Q (pc + 3) (lv) (st) (u)) (k2 : B = some out → V sh n D cy ad nL p l e R s m args below meth c Q (tgt) (lv) (st) (u)) : V sh n D cy ad nL p l e R s m args below meth c Q (pc) (lv) (.int (bz b) :: st) (u) :=
  fun H locs la hP hS hl =>  lv_if_eq C.1 C.2.1 hd ht (fun z => k2 (by rw [if_neg ((bz_eq b).mp z)] at h; exact h) H locs la hP hS hl) (fun z => k1 (by rw [if_pos (Decidable.not_not.mp (fun q => z ((bz_eq b).mpr q)))] at h; exact h) H locs la hP hS hl)
theorem v_z_ne (C : Cx n D cy ad nL cc own R p s m args c) {b : Bool} {A B : Option O} {off : Int} (tgt : Nat) (hd : decode cc pc = .ok (.ifCond .ne off, 3)) (ht : (pc : Int) + off = (tgt : Int)) (h : (if b = true then A else B) = some out) (k1 : A = some out → V sh n D cy ad nL p l e R s m args below meth c Q (tgt) (lv) (st) (u)) (k2 : B = some out → V sh n D cy ad nL p l e R s m args below meth c Q (pc + 3) (lv) (st) (u)) : V sh n D cy ad nL p l e R s m args below meth c Q (pc) (lv) (.int (bz b) :: st) (u) :=
  fun H locs la hP hS hl =>  lv_if_ne C.1 C.2.1 hd ht (fun z => k1 (by rw [if_pos (Decidable.not_not.mp (fun q => z ((bz_eq b).mpr q)))] at h; exact h) H locs la hP hS hl) (fun z => k2 (by rw [if_neg ((bz_eq b).mp z)] at h; exact h) H locs la hP hS hl)
theorem v_lcmp_lt (C : Cx n D cy ad nL cc own R p s m args c) {x y : Int64} {A B : Option O} {off : Int} (tgt : Nat) (hd0 : decode cc pc = .ok (.lcmp, 1)) (hd : decode cc (pc + 1) = .ok (.ifCond .lt off, 3)) (ht : ((pc + 1 : Nat) : Int) + off = (tgt : Int)) (h : (if x < y then A else B) = some out) (k1 : A = some out → V sh n D cy ad nL p l e R s m args below meth c Q (tgt) (lv) (st) (u)) (k2 : B = some out → V sh n D cy ad nL p l e R s m args below meth c Q (pc + 1 + 3) (lv) (st) (u)) : V sh n D cy ad nL p l e R s m args below meth c Q (pc) (lv) (.long y :: .long x :: st) (u) :=
  fun H locs la hP hS hl =>  W.lcmp C.1 C.2.1 hd0 (lv_if_lt C.1 C.2.1 hd ht (fun z => k1 (by rw [if_pos ((lg_cmp_lt x y).mp z)] at h; exact h) H locs la hP hS hl) (fun z => k2 (by rw [if_neg (fun q => z ((lg_cmp_lt x y).mpr q))] at h; exact h) H locs la hP hS hl))
theorem v_lcmp_ge (C : Cx n D cy ad nL cc own R p s m args c) {x y : Int64} {A B : Option O} {off : Int} (tgt : Nat) (hd0 : decode cc pc = .ok (.lcmp, 1)) (hd : decode cc (pc + 1) = .ok (.ifCond .ge off, 3)) (ht : ((pc + 1 : Nat) : Int) + off = (tgt : Int)) (h : (if y ≤ x then A else B) = some out) (k1 : A = some out → V sh n D cy ad nL p l e R s m args below meth c Q (tgt) (lv) (st) (u)) (k2 : B = some out → V sh n D cy ad nL p l e R s m args below meth c Q (pc + 1 + 3) (lv) (st) (u)) : V sh n D cy ad nL p l e R s m args below meth c Q (pc) (lv) (.long y :: .long x :: st) (u) :=
  fun H locs la hP hS hl =>  W.lcmp C.1 C.2.1 hd0 (lv_if_ge C.1 C.2.1 hd ht (fun z => k1 (by rw [if_pos ((lg_cmp_ge x y).mp z)] at h; exact h) H locs la hP hS hl) (fun z => k2 (by rw [if_neg (fun q => z ((lg_cmp_ge x y).mpr q))] at h; exact h) H locs la hP hS hl))
theorem v_lcmp_gt (C : Cx n D cy ad nL cc own R p s m args c) {x y : Int64} {A B : Option O} {off : Int} (tgt : Nat) (hd0 : decode cc pc = .ok (.lcmp, 1)) (hd : decode cc (pc + 1) = .ok (.ifCond .gt off, 3)) (ht : ((pc + 1 : Nat) : Int) + off = (tgt : Int)) (h : (if y < x then A else B) = some out) (k1 : A = some out → V sh n D cy ad nL p l e R s m args below meth c Q (tgt) (lv) (st) (u)) (k2 : B = some out → V sh n D cy ad nL p l e R s m args below meth c Q (pc + 1 + 3) (lv) (st) (u)) : V sh n D cy ad nL p l e R s m args below meth c Q (pc) (lv) (.long y :: .long x :: st) (u) :=
  fun H locs la hP hS hl =>  W.lcmp C.1 C.2.1 hd0 (lv_if_gt C.1 C.2.1 hd ht (fun z => k1 (by rw [if_pos ((lg_cmp_gt x y).mp z)] at h; exact h) H locs la hP hS hl) (fun z => k2 (by rw [if_neg (fun q => z ((lg_cmp_gt x y).mpr q))] at h; exact h) H locs la hP hS hl))
theorem v_lcmp_le (C : Cx n D cy ad nL cc own R p s m args c) {x y : Int64} {A B : Option O} {off : Int} (tgt : Nat) (hd0 : decode cc pc = .ok (.lcmp, 1)) (hd : decode cc (pc + 1) = .ok (.ifCond .le off, 3)) (ht : ((pc + 1 : Nat) : Int) + off = (tgt : Int)) (h : (if x ≤ y then A else B) = some out) (k1 : A = some out → V sh n D cy ad nL p l e R s m args below meth c Q (tgt) (lv) (st) (u)) (k2 : B = some out → V sh n D cy ad nL p l e R s m args below meth c Q (pc + 1 + 3) (lv) (st) (u)) : V sh n D cy ad nL p l e R s m args below meth c Q (pc) (lv) (.long y :: .long x :: st) (u) :=
  fun H locs la hP hS hl =>  W.lcmp C.1 C.2.1 hd0 (lv_if_le C.1 C.2.1 hd ht (fun z => k1 (by rw [if_pos ((lg_cmp_le x y).mp z)] at h; exact h) H locs la hP hS hl) (fun z => k2 (by rw [if_neg (fun q => z ((lg_cmp_le x y).mpr q))] at h; exact h) H locs la hP hS hl))
theorem v_lcmp_eq (C : Cx n D cy ad nL cc own R p s m args c) {x y : Int64} {A B : Option O} {off : Int} (tgt : Nat) (hd0 : decode cc pc = .ok (.lcmp, 1)) (hd : decode cc (pc + 1) = .ok (.ifCond .eq off, 3)) (ht : ((pc + 1 : Nat) : Int) + off = (tgt : Int)) (h : (if x = y then A else B) = some out) (k1 : A = some out → V sh n D cy ad nL p l e R s m args below meth c Q (tgt) (lv) (st) (u)) (k2 : B = some out → V sh n D cy ad nL p l e R s m args below meth c Q (pc + 1 + 3) (lv) (st) (u)) : V sh n D cy ad nL p l e R s m args below meth c Q (pc) (lv) (.long y :: .long x :: st) (u) :=
  fun H locs la hP hS hl =>  W.lcmp C.1 C.2.1 hd0 (lv_if_eq C.1 C.2.1 hd ht (fun z => k1 (by rw [if_pos ((lg_cmp_eq x y).mp z)] at h; exact h) H locs la hP hS hl) (fun z => k2 (by rw [if_neg (fun q => z ((lg_cmp_eq x y).mpr q))] at h; exact h) H locs la hP hS hl))
theorem v_lcmp_ne (C : Cx n D cy ad nL cc own R p s m args c) {x y : Int64} {A B : Option O} {off : Int} (tgt : Nat) (hd0 : decode cc pc = .ok (.lcmp, 1)) (hd : decode cc (pc + 1) = .ok (.ifCond .ne off, 3)) (ht : ((pc + 1 : Nat) : Int) + off = (tgt : Int)) (h : (if x = y then A else B) = some out) (k1 : A = some out → V sh n D cy ad nL p l e R s m args below meth c Q (pc + 1 + 3) (lv) (st) (u)) (k2 : B = some out → V sh n D cy ad nL p l e R s m args below meth c Q (tgt) (lv) (st) (u)) : V sh n D cy ad nL p l e R s m args below meth c Q (pc) (lv) (.long y :: .long x :: st) (u) :=
  fun H locs la hP hS hl =>  W.lcmp C.1 C.2.1 hd0 (lv_if_ne C.1 C.2.1 hd ht (fun z => k2 (by rw [if_neg (fun q => z ((lg_cmp_eq x y).mpr q))] at h; exact h) H locs la hP hS hl) (fun z => k1 (by rw [if_pos ((lg_cmp_eq x y).mp z)] at h; exact h) H locs la hP hS hl))
theorem v_sub {lv2 : List (Nat × Value)} (ks : List Nat) (hk : lv_pick lv ks = lv2) (k : V sh n D cy ad nL p l e R s m args below meth c Q (pc) (lv2) (st) (u)) : V sh n D cy ad nL p l e R s m args below meth c Q (pc) (lv) (st) (u) := fun H locs la hP hS hl => k H locs la hP hS (lv_sub hl ks hk)
theorem v_top {x y : Int32} (e0 : x = y) (k : V sh n D cy ad nL p l e R s m args below meth c Q (pc) (lv) (.int x :: st) (u)) : V sh n D cy ad nL p l e R s m args below meth c Q (pc) (lv) (.int y :: st) (u) := e0 ▸ k
theorem v_topl {x y : Int64} (e0 : x = y) (k : V sh n D cy ad nL p l e R s m args below meth c Q (pc) (lv) (.long x :: st) (u)) : V sh n D cy ad nL p l e R s m args below meth c Q (pc) (lv) (.long y :: st) (u) := e0 ▸ k
theorem v_bif {cnd : Prop} [Decidable cnd] {A B : Prop} (a : cnd → A) (b : ¬ cnd → B) : (cnd → A) ∧ (¬ cnd → B) := ⟨a, b⟩
theorem p_if_eq (C : Cx n D cy ad nL cc own R p s m args c) {x : Int32} {off : Int} (tgt : Nat) (hd : decode cc pc = .ok (.ifCond .eq off, 3)) (ht : (pc : Int) + off = (tgt : Int)) (k1 : x = 0 → V sh n D cy ad nL p l e R s m args below meth c Q (tgt) (lv) (st) (u)) (k2 : ¬ (x = 0) → V sh n D cy ad nL p l e R s m args below meth c Q (pc + 3) (lv) (st) (u)) : V sh n D cy ad nL p l e R s m args below meth c Q (pc) (lv) (.int x :: st) (u) :=
  fun H locs la hP hS hl =>  lv_if_eq C.1 C.2.1 hd ht (fun z => k1 z H locs la hP hS hl) (fun z => k2 z H locs la hP hS hl)
theorem p_if_lt (C : Cx n D cy ad nL cc own R p s m args c) {x : Int32} {off : Int} (tgt : Nat) (hd : decode cc pc = .ok (.ifCond .lt off, 3)) (ht : (pc : Int) + off = (tgt : Int)) (k1 : x < 0 → V sh n D cy ad nL p l e R s m args below meth c Q (tgt) (lv) (st) (u)) (k2 : ¬ (x < 0) → V sh n D cy ad nL p l e R s m args below meth c Q (pc + 3) (lv) (st) (u)) : V sh n D cy ad nL p l e R s m args below meth c Q (pc) (lv) (.int x :: st) (u) :=
  fun H locs la hP hS hl =>  lv_if_lt C.1 C.2.1 hd ht (fun z => k1 z H locs la hP hS hl) (fun z => k2 z H locs la hP hS hl)
theorem p_if_ge (C : Cx n D cy ad nL cc own R p s m args c) {x : Int32} {off : Int} (tgt : Nat) (hd : decode cc pc = .ok (.ifCond .ge off, 3)) (ht : (pc : Int) + off = (tgt : Int)) (k1 : 0 ≤ x → V sh n D cy ad nL p l e R s m args below meth c Q (tgt) (lv) (st) (u)) (k2 : ¬ (0 ≤ x) → V sh n D cy ad nL p l e R s m args below meth c Q (pc + 3) (lv) (st) (u)) : V sh n D cy ad nL p l e R s m args below meth c Q (pc) (lv) (.int x :: st) (u) :=
  fun H locs la hP hS hl =>  lv_if_ge C.1 C.2.1 hd ht (fun z => k1 z H locs la hP hS hl) (fun z => k2 z H locs la hP hS hl)
theorem p_if_gt (C : Cx n D cy ad nL cc own R p s m args c) {x : Int32} {off : Int} (tgt : Nat) (hd : decode cc pc = .ok (.ifCond .gt off, 3)) (ht : (pc : Int) + off = (tgt : Int)) (k1 : 0 < x → V sh n D cy ad nL p l e R s m args below meth c Q (tgt) (lv) (st) (u)) (k2 : ¬ (0 < x) → V sh n D cy ad nL p l e R s m args below meth c Q (pc + 3) (lv) (st) (u)) : V sh n D cy ad nL p l e R s m args below meth c Q (pc) (lv) (.int x :: st) (u) :=
  fun H locs la hP hS hl =>  lv_if_gt C.1 C.2.1 hd ht (fun z => k1 z H locs la hP hS hl) (fun z => k2 z H locs la hP hS hl)
theorem p_if_le (C : Cx n D cy ad nL cc own R p s m args c) {x : Int32} {off : Int} (tgt : Nat) (hd : decode cc pc = .ok (.ifCond .le off, 3)) (ht : (pc : Int) + off = (tgt : Int)) (k1 : x ≤ 0 → V sh n D cy ad nL p l e R s m args below meth c Q (tgt) (lv) (st) (u)) (k2 : ¬ (x ≤ 0) → V sh n D cy ad nL p l e R s m args below meth c Q (pc + 3) (lv) (st) (u)) : V sh n D cy ad nL p l e R s m args below meth c Q (pc) (lv) (.int x :: st) (u) :=
  fun H locs la hP hS hl =>  lv_if_le C.1 C.2.1 hd ht (fun z => k1 z H locs la hP hS hl) (fun z => k2 z H locs la hP hS hl)
theorem p_if_ne (C : Cx n D cy ad nL cc own R p s m args c) {x : Int32} {off : Int} (tgt : Nat) (hd : decode cc pc = .ok (.ifCond .ne off, 3)) (ht : (pc : Int) + off = (tgt : Int)) (k1 : x = 0 → V sh n D cy ad nL p l e R s m args below meth c Q (pc + 3) (lv) (st) (u)) (k2 : ¬ (x = 0) → V sh n D cy ad nL p l e R s m args below meth c Q (tgt) (lv) (st) (u)) : V sh n D cy ad nL p l e R s m args below meth c Q (pc) (lv) (.int x :: st) (u) :=
  fun H locs la hP hS hl =>  lv_if_ne C.1 C.2.1 hd ht (fun z => k2 z H locs la hP hS hl) (fun z => k1 z H locs la hP hS hl)
theorem p_icmp_eq (C : Cx n D cy ad nL cc own R p s m args c) {x y : Int32} {off : Int} (tgt : Nat) (hd : decode cc pc = .ok (.if_icmp .eq off, 3)) (ht : (pc : Int) + off = (tgt : Int)) (k1 : x = y → V sh n D cy ad nL p l e R s m args below meth c Q (tgt) (lv) (st) (u)) (k2 : ¬ (x = y) → V sh n D cy ad nL p l e R s m args below meth c Q (pc + 3) (lv) (st) (u)) : V sh n D cy ad nL p l e R s m args below meth c Q (pc) (lv) (.int y :: .int x :: st) (u) :=
  fun H locs la hP hS hl =>  lv_icmp_eq C.1 C.2.1 hd ht (fun z => k1 z H locs la hP hS hl) (fun z => k2 z H locs la hP hS hl)
theorem p_icmp_lt (C : Cx n D cy ad nL cc own R p s m args c) {x y : Int32} {off : Int} (tgt : Nat) (hd : decode cc pc = .ok (.if_icmp .lt off, 3)) (ht : (pc : Int) + off = (tgt : Int)) (k1 : x < y → V sh n D cy ad nL p l e R s m args below meth c Q (tgt) (lv) (st) (u)) (k2 : ¬ (x < y) → V sh n D cy ad nL p l e R s m args below meth c Q (pc + 3) (lv) (st) (u)) : V sh n D cy ad nL p l e R s m args below meth c Q (pc) (lv) (.int y :: .int x :: st) (u) :=
  fun H locs la hP hS hl =>  lv_icmp_lt C.1 C.2.1 hd ht (fun z => k1 z H locs la hP hS hl) (fun z => k2 z H locs la hP hS hl)
theorem p_icmp_ge (C : Cx n D cy ad nL cc own R p s m args c) {x y : Int32} {off : Int} (tgt : Nat) (hd : decode cc pc = .ok (.if_icmp .ge off, 3)) (ht : (pc : Int) + off = (tgt : Int)) (k1 : y ≤ x → V sh n D cy ad nL p l e R s m args below meth c Q (tgt) (lv) (st) (u)) (k2 : ¬ (y ≤ x) → V sh n D cy ad nL p l e R s m args below meth c Q (pc + 3) (lv) (st) (u)) : V sh n D cy ad nL p l e R s m args below meth c Q (pc) (lv) (.int y :: .int x :: st) (u) :=
  fun H locs la hP hS hl =>  lv_icmp_ge C.1 C.2.1 hd ht (fun z => k1 z H locs la hP hS hl) (fun z => k2 z H locs la hP hS hl)
theorem p_icmp_gt (C : Cx n D cy ad nL cc own R p s m args c) {x y : Int32} {off : Int} (tgt : Nat) (hd : decode cc pc = .ok (.if_icmp .gt off, 3)) (ht : (pc : Int) + off = (tgt : Int)) (k1 : y < x → V sh n D cy ad nL p l e R s m args below meth c Q (tgt) (lv) (st) (u)) (k2 : ¬ (y < x) → V sh n D cy ad nL p l e R s m args below meth c Q (pc + 3) (lv) (st) (u)) : V sh n D cy ad nL p l e R s m args below meth c Q (pc) (lv) (.int y :: .int x :: st) (u) :=
  fun H locs la hP hS hl =>  lv_icmp_gt C.1 C.2.1 hd ht (fun z => k1 z H locs la hP hS hl) (fun z => k2 z H locs la hP hS hl)
theorem p_icmp_le (C : Cx n D cy ad nL cc own R p s m args c) {x y : Int32} {off : Int} (tgt : Nat) (hd : decode cc pc = .ok (.if_icmp .le off, 3)) (ht : (pc : Int) + off = (tgt : Int)) (k1 : x ≤ y → V sh n D cy ad nL p l e R s m args below meth c Q (tgt) (lv) (st) (u)) (k2 : ¬ (x ≤ y) → V sh n D cy ad nL p l e R s m args below meth c Q (pc + 3) (lv) (st) (u)) : V sh n D cy ad nL p l e R s m args below meth c Q (pc) (lv) (.int y :: .int x :: st) (u) :=
  fun H locs la hP hS hl =>  lv_icmp_le C.1 C.2.1 hd ht (fun z => k1 z H locs la hP hS hl) (fun z => k2 z H locs la hP hS hl)
theorem p_icmp_ne (C : Cx n D cy ad nL cc own R p s m args c) {x y : Int32} {off : Int} (tgt : Nat) (hd : decode cc pc = .ok (.if_icmp .ne off, 3)) (ht : (pc : Int) + off = (tgt : Int)) (k1 : x = y → V sh n D cy ad nL p l e R s m args below meth c Q (pc + 3) (lv) (st) (u)) (k2 : ¬ (x = y) → V sh n D cy ad nL p l e R s m args below meth c Q (tgt) (lv) (st) (u)) : V sh n D cy ad nL p l e R s m args below meth c Q (pc) (lv) (.int y :: .int x :: st) (u) :=
  fun H locs la hP hS hl =>  lv_icmp_ne C.1 C.2.1 hd ht (fun z => k2 z H locs la hP hS hl) (fun z => k1 z H locs la hP hS hl)
theorem p_z_eq (C : Cx n D cy ad nL cc own R p s m args c) {b : Bool} {off : Int} (tgt : Nat) (hd : decode cc pc = .ok (.ifCond .eq off, 3)) (ht : (pc : Int) + off = (tgt : Int)) (k1 : b = true → V sh n D cy ad nL p l e R s m args below meth c Q (pc + 3) (lv) (st) (u)) (k2 : ¬ b = true → V sh n D cy ad nL p l e R s m args below meth c Q (tgt) (lv) (st) (u)) : V sh n D cy ad nL p l e R s m args below meth c Q (pc) (lv) (.int (bz b) :: st) (u) :=
  fun H locs la hP hS hl =>  lv_if_eq C.1 C.2.1 hd ht (fun z => k2 ((bz_eq b).mp z) H locs la hP hS hl) (fun z => k1 (Decidable.not_not.mp (fun q => z ((bz_eq b).mpr q))) H locs la hP hS hl)
theorem p_z_ne (C : Cx n D cy ad nL cc own R p s m args c) {b : Bool} {off : Int} (tgt : Nat) (hd : decode cc pc = .ok (.ifCond .ne off, 3)) (ht : (pc : Int) + off = (tgt : Int)) (k1 : b = true → V sh n D cy ad nL p l e R s m args below meth c Q (tgt) (lv) (st) (u)) (k2 : ¬ b = true → V sh n D cy ad nL p l e R s m args below meth c Q (pc + 3) (lv) (st) (u)) : V sh n D cy ad nL p l e R s m args below meth c Q (pc) (lv) (.int (bz b) :: st) (u) :=
  fun H locs la hP hS hl =>  lv_if_ne C.1 C.2.1 hd ht (fun z => k1 (Decidable.not_not.mp (fun q => z ((bz_eq b).mpr q))) H locs la hP hS hl) (fun z => k2 ((bz_eq b).mp z) H locs la hP hS hl)
theorem p_lcmp_lt (C : Cx n D cy ad nL cc own R p s m args c) {x y : Int64} {off : Int} (tgt : Nat) (hd0 : decode cc pc = .ok (.lcmp, 1)) (hd : decode cc (pc + 1) = .ok (.ifCond .lt off, 3)) (ht : ((pc + 1 : Nat) : Int) + off = (tgt : Int)) (k1 : x < y → V sh n D cy ad nL p l e R s m args below meth c Q (tgt) (lv) (st) (u)) (k2 : ¬ (x < y) → V sh n D cy ad nL p l e R s m args below meth c Q (pc + 1 + 3) (lv) (st) (u)) : V sh n D cy ad nL p l e R s m args below meth c Q (pc) (lv) (.long y :: .long x :: st) (u) :=
  fun H locs la hP hS hl =>  W.lcmp C.1 C.2.1 hd0 (lv_if_lt C.1 C.2.1 hd ht (fun z => k1 ((lg_cmp_lt x y).mp z) H locs la hP hS hl) (fun z => k2 (fun q => z ((lg_cmp_lt x y).mpr q)) H locs la hP hS hl))
theorem p_lcmp_ge (C : Cx n D cy ad nL cc own R p s m args c) {x y : Int64} {off : Int} (tgt : Nat) (hd0 : decode cc pc = .ok (.lcmp, 1)) (hd : decode cc (pc + 1) = .ok (.ifCond .ge off, 3)) (ht : ((pc + 1 : Nat) : Int) + off = (tgt : Int)) (k1 : y ≤ x → V sh n D cy ad nL p l e R s m args below meth c Q (tgt) (lv) (st) (u)) (k2 : ¬ (y ≤ x) → V sh n D cy ad nL p l e R s m args below meth c Q (pc + 1 + 3) (lv) (st) (u)) : V sh n D cy ad nL p l e R s m args below meth c Q (pc) (lv) (.long y :: .long x :: st) (u) :=
  fun H locs la hP hS hl =>  W.lcmp C.1 C.2.1 hd0 (lv_if_ge C.1 C.2.1 hd ht (fun z => k1 ((lg_cmp_ge x y).mp z) H locs la hP hS hl) (fun z => k2 (fun q => z ((lg_cmp_ge x y).mpr q)) H locs la hP hS hl))
theorem p_lcmp_gt (C : Cx n D cy ad nL cc own R p s m args c) {x y : Int64} {off : Int} (tgt : Nat) (hd0 : decode cc pc = .ok (.lcmp, 1)) (hd : decode cc (pc + 1) = .ok (.ifCond .gt off, 3)) (ht : ((pc + 1 : Nat) : Int) + off = (tgt : Int)) (k1 : y < x → V sh n D cy ad nL p l e R s m args below meth c Q (tgt) (lv) (st) (u)) (k2 : ¬ (y < x) → V sh n D cy ad nL p l e R s m args below meth c Q (pc + 1 + 3) (lv) (st) (u)) : V sh n D cy ad nL p l e R s m args below meth c Q (pc) (lv) (.long y :: .long x :: st) (u) :=
  fun H locs la hP hS hl =>  W.lcmp C.1 C.2.1 hd0 (lv_if_gt C.1 C.2.1 hd ht (fun z => k1 ((lg_cmp_gt x y).mp z) H locs la hP hS hl) (fun z => k2 (fun q => z ((lg_cmp_gt x y).mpr q)) H locs la hP hS hl))
theorem p_lcmp_le (C : Cx n D cy ad nL cc own R p s m args c) {x y : Int64} {off : Int} (tgt : Nat) (hd0 : decode cc pc = .ok (.lcmp, 1)) (hd : decode cc (pc + 1) = .ok (.ifCond .le off, 3)) (ht : ((pc + 1 : Nat) : Int) + off = (tgt : Int)) (k1 : x ≤ y → V sh n D cy ad nL p l e R s m args below meth c Q (tgt) (lv) (st) (u)) (k2 : ¬ (x ≤ y) → V sh n D cy ad nL p l e R s m args below meth c Q (pc + 1 + 3) (lv) (st) (u)) : V sh n D cy ad nL p l e R s m args below meth c Q (pc) (lv) (.long y :: .long x :: st) (u) :=
  fun H locs la hP hS hl =>  W.lcmp C.1 C.2.1 hd0 (lv_if_le C.1 C.2.1 hd ht (fun z => k1 ((lg_cmp_le x y).mp z) H locs la hP hS hl) (fun z => k2 (fun q => z ((lg_cmp_le x y).mpr q)) H locs la hP hS hl))
theorem p_lcmp_eq (C : Cx n D cy ad nL cc own R p s m args c) {x y : Int64} {off : Int} (tgt : Nat) (hd0 : decode cc pc = .ok (.lcmp, 1)) (hd : decode cc (pc + 1) = .ok (.ifCond .eq off, 3)) (ht : ((pc + 1 : Nat) : Int) + off = (tgt : Int)) (k1 : x = y → V sh n D cy ad nL p l e R s m args below meth c Q (tgt) (lv) (st) (u)) (k2 : ¬ (x = y) → V sh n D cy ad nL p l e R s m args below meth c Q (pc + 1 + 3) (lv) (st) (u)) : V sh n D cy ad nL p l e R s m args below meth c Q (pc) (lv) (.long y :: .long x :: st) (u) :=
  fun H locs la hP hS hl =>  W.lcmp C.1 C.2.1 hd0 (lv_if_eq C.1 C.2.1 hd ht (fun z => k1 ((lg_cmp_eq x y).mp z) H locs la hP hS hl) (fun z => k2 (fun q => z ((lg_cmp_eq x y).mpr q)) H locs la hP hS hl))
theorem p_lcmp_ne (C : Cx n D cy ad nL cc own R p s m args c) {x y : Int64} {off : Int} (tgt : Nat) (hd0 : decode cc pc = .ok (.lcmp, 1)) (hd : decode cc (pc + 1) = .ok (.ifCond .ne off, 3)) (ht : ((pc + 1 : Nat) : Int) + off = (tgt : Int)) (k1 : x = y → V sh n D cy ad nL p l e R s m args below meth c Q (pc + 1 + 3) (lv) (st) (u)) (k2 : ¬ x = y → V sh n D cy ad nL p l e R s m args below meth c Q (tgt) (lv) (st) (u)) : V sh n D cy ad nL p l e R s m args below meth c Q (pc) (lv) (.long y :: .long x :: st) (u) :=
  fun H locs la hP hS hl =>  W.lcmp C.1 C.2.1 hd0 (lv_if_ne C.1 C.2.1 hd ht (fun z => k2 (fun q => z ((lg_cmp_eq x y).mpr q)) H locs la hP hS hl) (fun z => k1 ((lg_cmp_eq x y).mp z) H locs la hP hS hl))

theorem wE_o {k ci : Nat} {l0 : List Nat} (h : Pl sh n k (.inl (ci, l0))) : (wl ad n (wE cy ad sh u))[k]? = some (ad k, .inr (ci, l0.mapIdx (sv ad (u.1 k) (u.2 k)))) := by
  rw [wl_at h.1, wE, h.2]
  rfl
theorem sv_at {l0 : List Nat} {j c0 : Nat} {mi : Nat → Int32} {ml : Nat → Int64} (h : l0[j]? = some c0) : (l0.mapIdx (sv ad mi ml))[j]? = some (sv ad mi ml j c0) := by
  rw [List.getElem?_mapIdx, h]
  rfl
theorem v_geti (C : Cx n D cy ad nL cc own R p s m args c) {k0 ci j index : Nat} {l0 : List Nat} (hp : Pl sh n k0 (.inl (ci, l0))) (hf : fdW own index ci j) (hc : l0[j]? = some 0) (hd : decode cc pc = .ok (.getfield index, 3)) (k : V sh n D cy ad nL p l e R s m args below meth c Q (pc + 3) (lv) (.int (u.1 k0 j) :: st) (u)) : V sh n D cy ad nL p l e R s m args below meth c Q (pc) (lv) (.ref (ad k0) :: st) (u) := by
  obtain ⟨Cn, T, N, h1, h2, h3, h4⟩ := hf
  exact fun H locs la hP hS hl =>  va_get (D := D) (cl := vwCl) (tys := vty cy) (Ts := gw) (own := own) C.1 C.2.1 C.2.2.2.2.1 h2 C.2.2.2.1 C.2.2.2.2.2.1 hP k0 (wE_o hp) h1 j h3 (C.2.2.2.2.1 _ h4) (fun _ h9 => h9) (sv_at hc) hd (k H locs la hP hS hl)
theorem v_getl (C : Cx n D cy ad nL cc own R p s m args c) {k0 ci j index : Nat} {l0 : List Nat} (hp : Pl sh n k0 (.inl (ci, l0))) (hf : fdW own index ci j) (hc : l0[j]? = some 1) (hd : decode cc pc = .ok (.getfield index, 3)) (k : V sh n D cy ad nL p l e R s m args below meth c Q (pc + 3) (lv) (.long (u.2 k0 j) :: st) (u)) : V sh n D cy ad nL p l e R s m args below meth c Q (pc) (lv) (.ref (ad k0) :: st) (u) := by
  obtain ⟨Cn, T, N, h1, h2, h3, h4⟩ := hf
  exact fun H locs la hP hS hl =>  va_get (D := D) (cl := vwCl) (tys := vty cy) (Ts := gw) (own := own) C.1 C.2.1 C.2.2.2.2.1 h2 C.2.2.2.1 C.2.2.2.2.2.1 hP k0 (wE_o hp) h1 j h3 (C.2.2.2.2.1 _ h4) (fun _ h9 => h9) (sv_at hc) hd (k H locs la hP hS hl)
theorem v_getq (C : Cx n D cy ad nL cc own R p s m args c) {k0 ci j index : Nat} {l0 : List Nat} (hp : Pl sh n k0 (.inl (ci, l0))) (hf : fdW own index ci j) (hc : l0[j]? = some 2) (hd : decode cc pc = .ok (.getfield index, 3)) (k : V sh n D cy ad nL p l e R s m args below meth c Q (pc + 3) (lv) (.ref (ad (5 * (u.1 k0 j).toNatClampNeg)) :: st) (u)) : V sh n D cy ad nL p l e R s m args below meth c Q (pc) (lv) (.ref (ad k0) :: st) (u) := by
  obtain ⟨Cn, T, N, h1, h2, h3, h4⟩ := hf
  exact fun H locs la hP hS hl =>  va_get (D := D) (cl := vwCl) (tys := vty cy) (Ts := gw) (own := own) C.1 C.2.1 C.2.2.2.2.1 h2 C.2.2.2.1 C.2.2.2.2.2.1 hP k0 (wE_o hp) h1 j h3 (C.2.2.2.2.1 _ h4) (fun _ h9 => h9) (sv_at hc) hd (k H locs la hP hS hl)
theorem v_getr (C : Cx n D cy ad nL cc own R p s m args c) {k0 ci j index p0 : Nat} {l0 : List Nat} (hp : Pl sh n k0 (.inl (ci, l0))) (hf : fdW own index ci j) (hc : l0[j]? = some (p0 + 3)) (hd : decode cc pc = .ok (.getfield index, 3)) (k : V sh n D cy ad nL p l e R s m args below meth c Q (pc + 3) (lv) (.ref (ad p0) :: st) (u)) : V sh n D cy ad nL p l e R s m args below meth c Q (pc) (lv) (.ref (ad k0) :: st) (u) := by
  obtain ⟨Cn, T, N, h1, h2, h3, h4⟩ := hf
  exact fun H locs la hP hS hl =>  va_get (D := D) (cl := vwCl) (tys := vty cy) (Ts := gw) (own := own) C.1 C.2.1 C.2.2.2.2.1 h2 C.2.2.2.1 C.2.2.2.2.2.1 hP k0 (wE_o hp) h1 j h3 (C.2.2.2.2.1 _ h4) (fun _ h9 => h9) (sv_at hc) hd (k H locs la hP hS hl)
theorem v_puti (C : Cx n D cy ad nL cc own R p s m args c) {k0 ci j index : Nat} {l0 : List Nat} {v : Int32} {ty : FieldType} (hp : Pl sh n k0 (.inl (ci, l0))) (hf : fpW own index ci j ty) (hc : l0[j]? = some 0) (hn : narrow ty (.int v) = .int v) (hfit : fits ty (.int v) = true) (hd : decode cc pc = .ok (.putfield index, 3)) (k : V sh n D cy ad nL p l e R s m args below meth c Q (pc + 3) (lv) (st) (si u k0 j v)) : V sh n D cy ad nL p l e R s m args below meth c Q (pc) (lv) (.int v :: .ref (ad k0) :: st) (u) := by
  obtain ⟨Cn, T, N, t0, h1, h2, h3, h4, h5, h6, h7, h8⟩ := hf
  intro H locs la hP hS hl
  refine va_put (D := D) (cl := vwCl) (tys := vty cy) (Ts := gw) (own := own) (ty := ty) C.1 C.2.1 C.2.2.2.2.1 h2 t0 h5 h6 C.2.2.2.1 C.2.2.2.2.2.1 hP (wl_D C.2.2.2.2.2.2.2.1) hS k0 (wE_o hp) h1 j h3 (C.2.2.2.2.1 _ h4) (fun _ h9 => h9) h7 h8 hn hfit (by rw [List.length_mapIdx]; exact (List.getElem?_eq_some_iff.mp hc).1) hd (fun H1 locs1 hP1 hD1 hS1 => ?_)
  have e0 : sE cy ad (upd (u.1 k0) j v) (u.2 k0) (sh k0) = .inr (ci, (l0.mapIdx (sv ad (u.1 k0) (u.2 k0))).set j (.int v)) := by rw [hp.2]; show (Sum.inr (ci, _) : va_E) = _; rw [sv_seti ad _ _ v hc]
  rw [wl_set, wE_si e0] at hP1
  exact k H1 locs1 la hP1 hS1 hl
theorem v_putl (C : Cx n D cy ad nL cc own R p s m args c) {k0 ci j index : Nat} {l0 : List Nat} {v : Int64} {ty : FieldType} (hp : Pl sh n k0 (.inl (ci, l0))) (hf : fpW own index ci j ty) (hc : l0[j]? = some 1) (hn : narrow ty (.long v) = .long v) (hfit : fits ty (.long v) = true) (hd : decode cc pc = .ok (.putfield index, 3)) (k : V sh n D cy ad nL p l e R s m args below meth c Q (pc + 3) (lv) (st) (sl u k0 j v)) : V sh n D cy ad nL p l e R s m args below meth c Q (pc) (lv) (.long v :: .ref (ad k0) :: st) (u) := by
  obtain ⟨Cn, T, N, t0, h1, h2, h3, h4, h5, h6, h7, h8⟩ := hf
  intro H locs la hP hS hl
  refine va_put (D := D) (cl := vwCl) (tys := vty cy) (Ts := gw) (own := own) (ty := ty) C.1 C.2.1 C.2.2.2.2.1 h2 t0 h5 h6 C.2.2.2.1 C.2.2.2.2.2.1 hP (wl_D C.2.2.2.2.2.2.2.1) hS k0 (wE_o hp) h1 j h3 (C.2.2.2.2.1 _ h4) (fun _ h9 => h9) h7 h8 hn hfit (by rw [List.length_mapIdx]; exact (List.getElem?_eq_some_iff.mp hc).1) hd (fun H1 locs1 hP1 hD1 hS1 => ?_)
  have e0 : sE cy ad (u.1 k0) (vp_updL (u.2 k0) j v) (sh k0) = .inr (ci, (l0.mapIdx (sv ad (u.1 k0) (u.2 k0))).set j (.long v)) := by rw [hp.2]; show (Sum.inr (ci, _) : va_E) = _; rw [sv_setl ad _ _ v hc]
  rw [wl_set, wE_sl e0] at hP1
  exact k H1 locs1 la hP1 hS1 hl
theorem v_putq (C : Cx n D cy ad nL cc own R p s m args c) {k0 ci j index : Nat} {l0 : List Nat} {i0 : Nat} (hi0 : i0 < 32) {ty : FieldType} (hp : Pl sh n k0 (.inl (ci, l0))) (hf : fpW own index ci j ty) (hc : l0[j]? = some 2) (hn : narrow ty (.ref (ad (5 * i0))) = .ref (ad (5 * i0))) (hfit : fits ty (.ref (ad (5 * i0))) = true) (hd : decode cc pc = .ok (.putfield index, 3)) (k : V sh n D cy ad nL p l e R s m args below meth c Q (pc + 3) (lv) (st) (si u k0 j (nI i0))) : V sh n D cy ad nL p l e R s m args below meth c Q (pc) (lv) (.ref (ad (5 * i0)) :: .ref (ad k0) :: st) (u) := by
  obtain ⟨Cn, T, N, t0, h1, h2, h3, h4, h5, h6, h7, h8⟩ := hf
  intro H locs la hP hS hl
  refine va_put (D := D) (cl := vwCl) (tys := vty cy) (Ts := gw) (own := own) (ty := ty) C.1 C.2.1 C.2.2.2.2.1 h2 t0 h5 h6 C.2.2.2.1 C.2.2.2.2.2.1 hP (wl_D C.2.2.2.2.2.2.2.1) hS k0 (wE_o hp) h1 j h3 (C.2.2.2.2.1 _ h4) (fun _ h9 => h9) h7 h8 hn hfit (by rw [List.length_mapIdx]; exact (List.getElem?_eq_some_iff.mp hc).1) hd (fun H1 locs1 hP1 hD1 hS1 => ?_)
  have e5 : (nI i0).toNatClampNeg = i0 := nI_clamp (by omega)
  have e0 : sE cy ad (upd (u.1 k0) j (nI i0)) (u.2 k0) (sh k0) = .inr (ci, (l0.mapIdx (sv ad (u.1 k0) (u.2 k0))).set j (.ref (ad (5 * i0)))) := by rw [hp.2]; show (Sum.inr (ci, _) : va_E) = _; rw [sv_setq ad _ _ (nI i0) hc, e5]
  rw [wl_set, wE_si e0] at hP1
  exact k H1 locs1 la hP1 hS1 hl

theorem wE_a {k t N : Nat} {f : Nat → Nat} (h : Pl sh n k (.inr (t, N, f))) (ht : t < 3) : (wl ad n (wE cy ad sh u))[k]? = some (ad k, .inl (cy t, N, .inl (u.1 k))) := by
  rw [wl_at h.1, wE, h.2]
  match t, ht with
  | 0, _ => rfl
  | 1, _ => rfl
  | 2, _ => rfl
theorem wE_al {k N : Nat} {f : Nat → Nat} (h : Pl sh n k (.inr (3, N, f))) : (wl ad n (wE cy ad sh u))[k]? = some (ad k, .inl (cy 3, N, .inr (.inl (u.2 k)))) := by
  rw [wl_at h.1, wE, h.2]
  rfl
theorem wE_ar {k t N : Nat} {f : Nat → Nat} (h : Pl sh n k (.inr (t + 4, N, f))) : (wl ad n (wE cy ad sh u))[k]? = some (ad k, .inl (cy (t + 4), N, .inr (.inr (.inr (.inr (fun i => some (ad (f i)))))))) := by
  rw [wl_at h.1, wE, h.2]
  rfl
theorem sE_a {k t N : Nat} {f : Nat → Nat} {mi : Nat → Int32} {ml : Nat → Int64} (h : Pl sh n k (.inr (t, N, f))) (ht : t < 3) : sE cy ad mi ml (sh k) = .inl (cy t, N, .inl mi) := by
  rw [h.2]
  match t, ht with
  | 0, _ => rfl
  | 1, _ => rfl
  | 2, _ => rfl
theorem sE_al {k N : Nat} {f : Nat → Nat} {mi : Nat → Int32} {ml : Nat → Int64} (h : Pl sh n k (.inr (3, N, f))) : sE cy ad mi ml (sh k) = .inl (cy 3, N, .inr (.inl ml)) := by
  rw [h.2]
  rfl
theorem v_iald (C : Cx n D cy ad nL cc own R p s m args c) {k0 N : Nat} {f0 : Nat → Nat} {i : Int32} {A : Option O} (hp : Pl sh n k0 (.inr (0, N, f0))) (hd : decode cc pc = .ok (.iaload, 1)) (h : (if inB i N then A else none) = some out) (k : A = some out → V sh n D cy ad nL p l e R s m args below meth c Q (pc + 1) (lv) (.int (u.1 k0 i.toNatClampNeg) :: st) (u)) : V sh n D cy ad nL p l e R s m args below meth c Q (pc) (lv) (.int i :: .ref (ad k0) :: st) (u) := by
  by_cases hi : inB i N
  · rw [if_pos hi] at h
    exact fun H locs la hP hS hl =>  va_iald (D := D) (cl := vwCl) (tys := vty cy) C.1 C.2.1 C.2.2.2.2.2.1 hP k0 0 (wE_a hp (by omega)) rfl (inB_vp hi) hd (k h H locs la hP hS hl)
  · rw [if_neg hi] at h; cases h
theorem v_zald (C : Cx n D cy ad nL cc own R p s m args c) {k0 N : Nat} {f0 : Nat → Nat} {i : Int32} {A : Option O} (hp : Pl sh n k0 (.inr (1, N, f0))) (hd : decode cc pc = .ok (.baload, 1)) (h : (if inB i N then A else none) = some out) (k : A = some out → V sh n D cy ad nL p l e R s m args below meth c Q (pc + 1) (lv) (.int (u.1 k0 i.toNatClampNeg) :: st) (u)) : V sh n D cy ad nL p l e R s m args below meth c Q (pc) (lv) (.int i :: .ref (ad k0) :: st) (u) := by
  by_cases hi : inB i N
  · rw [if_pos hi] at h
    exact fun H locs la hP hS hl =>  va_zald (D := D) (cl := vwCl) (tys := vty cy) C.1 C.2.1 C.2.2.2.2.2.1 hP k0 1 (wE_a hp (by omega)) rfl (inB_vp hi) hd (k h H locs la hP hS hl)
  · rw [if_neg hi] at h; cases h
theorem v_bald (C : Cx n D cy ad nL cc own R p s m args c) {k0 N : Nat} {f0 : Nat → Nat} {i : Int32} {A : Option O} (hp : Pl sh n k0 (.inr (2, N, f0))) (hd : decode cc pc = .ok (.baload, 1)) (h : (if inB i N then A else none) = some out) (k : A = some out → V sh n D cy ad nL p l e R s m args below meth c Q (pc + 1) (lv) (.int (u.1 k0 i.toNatClampNeg) :: st) (u)) : V sh n D cy ad nL p l e R s m args below meth c Q (pc) (lv) (.int i :: .ref (ad k0) :: st) (u) := by
  by_cases hi : inB i N
  · rw [if_pos hi] at h
    exact fun H locs la hP hS hl =>  va_bald (D := D) (cl := vwCl) (tys := vty cy) C.1 C.2.1 C.2.2.2.2.2.1 hP k0 2 (wE_a hp (by omega)) rfl (inB_vp hi) hd (k h H locs la hP hS hl)
  · rw [if_neg hi] at h; cases h
theorem v_lald (C : Cx n D cy ad nL cc own R p s m args c) {k0 N : Nat} {f0 : Nat → Nat} {i : Int32} {A : Option O} (hp : Pl sh n k0 (.inr (3, N, f0))) (hd : decode cc pc = .ok (.laload, 1)) (h : (if inB i N then A else none) = some out) (k : A = some out → V sh n D cy ad nL p l e R s m args below meth c Q (pc + 1) (lv) (.long (u.2 k0 i.toNatClampNeg) :: st) (u)) : V sh n D cy ad nL p l e R s m args below meth c Q (pc) (lv) (.int i :: .ref (ad k0) :: st) (u) := by
  by_cases hi : inB i N
  · rw [if_pos hi] at h
    exact fun H locs la hP hS hl =>  va_lald (D := D) (cl := vwCl) (tys := vty cy) C.1 C.2.1 C.2.2.2.2.2.1 hP k0 3 (wE_al hp) rfl (inB_vp hi) hd (k h H locs la hP hS hl)
  · rw [if_neg hi] at h; cases h
theorem v_aald4 (C : Cx n D cy ad nL cc own R p s m args c) {k0 N : Nat} {f0 : Nat → Nat} {i : Int32} {A : Option O} (hp : Pl sh n k0 (.inr (4, N, f0))) (hd : decode cc pc = .ok (.aaload, 1)) (h : (if inB i N then A else none) = some out) (k : A = some out → V sh n D cy ad nL p l e R s m args below meth c Q (pc + 1) (lv) (.ref (ad (f0 i.toNatClampNeg)) :: st) (u)) : V sh n D cy ad nL p l e R s m args below meth c Q (pc) (lv) (.int i :: .ref (ad k0) :: st) (u) := by
  by_cases hi : inB i N
  · rw [if_pos hi] at h
    exact fun H locs la hP hS hl =>  va_aldq (D := D) (cl := vwCl) (tys := vty cy) C.1 C.2.1 C.2.2.2.2.2.1 hP k0 4 (wE_ar (t := 0) hp) rfl (inB_vp hi) hd (k h H locs la hP hS hl)
  · rw [if_neg hi] at h; cases h
theorem v_aald5 (C : Cx n D cy ad nL cc own R p s m args c) {k0 N : Nat} {f0 : Nat → Nat} {i : Int32} {A : Option O} (hp : Pl sh n k0 (.inr (5, N, f0))) (hd : decode cc pc = .ok (.aaload, 1)) (h : (if inB i N then A else none) = some out) (k : A = some out → V sh n D cy ad nL p l e R s m args below meth c Q (pc + 1) (lv) (.ref (ad (f0 i.toNatClampNeg)) :: st) (u)) : V sh n D cy ad nL p l e R s m args below meth c Q (pc) (lv) (.int i :: .ref (ad k0) :: st) (u) := by
  by_cases hi : inB i N
  · rw [if_pos hi] at h
    exact fun H locs la hP hS hl =>  va_aldq (D := D) (cl := vwCl) (tys := vty cy) C.1 C.2.1 C.2.2.2.2.2.1 hP k0 5 (wE_ar (t := 1) hp) rfl (inB_vp hi) hd (k h H locs la hP hS hl)
  · rw [if_neg hi] at h; cases h
theorem v_iast (C : Cx n D cy ad nL cc own R p s m args c) {k0 N : Nat} {f0 : Nat → Nat} {i : Int32} {x : Int32} {A : Option O} (hp : Pl sh n k0 (.inr (0, N, f0))) (hd : decode cc pc = .ok (.iastore, 1)) (h : (if inB i N then A else none) = some out) (k : A = some out → V sh n D cy ad nL p l e R s m args below meth c Q (pc + 1) (lv) (st) (si u k0 i.toNatClampNeg x)) : V sh n D cy ad nL p l e R s m args below meth c Q (pc) (lv) (.int x :: .int i :: .ref (ad k0) :: st) (u) := by
  by_cases hi : inB i N
  · rw [if_pos hi] at h
    intro H locs la hP hS hl
    refine va_iast (D := D) (cl := vwCl) (tys := vty cy) C.1 C.2.1 C.2.2.2.2.2.1 hP (wl_D C.2.2.2.2.2.2.2.1) hS k0 0 (wE_a hp (by omega)) rfl (inB_vp hi) hd (fun H1 locs1 hP1 hD1 hS1 => ?_)
    rw [wl_set, wE_si (sE_a hp (by omega))] at hP1
    exact k h H1 locs1 la hP1 hS1 hl
  · rw [if_neg hi] at h; cases h
theorem v_zast (C : Cx n D cy ad nL cc own R p s m args c) {k0 N : Nat} {f0 : Nat → Nat} {i : Int32} {x : Int32} {A : Option O} (hp : Pl sh n k0 (.inr (1, N, f0))) (hx : vp_nar .boolean x = x) (hd : decode cc pc = .ok (.bastore, 1)) (h : (if inB i N then A else none) = some out) (k : A = some out → V sh n D cy ad nL p l e R s m args below meth c Q (pc + 1) (lv) (st) (si u k0 i.toNatClampNeg x)) : V sh n D cy ad nL p l e R s m args below meth c Q (pc) (lv) (.int x :: .int i :: .ref (ad k0) :: st) (u) := by
  by_cases hi : inB i N
  · rw [if_pos hi] at h
    intro H locs la hP hS hl
    refine va_zast (D := D) (cl := vwCl) (tys := vty cy) C.1 C.2.1 C.2.2.2.2.2.1 hP (wl_D C.2.2.2.2.2.2.2.1) hS k0 1 (wE_a hp (by omega)) rfl (inB_vp hi) hd (fun H1 locs1 hP1 hD1 hS1 => ?_)
    rw [hx] at hP1
    rw [wl_set, wE_si (sE_a hp (by omega))] at hP1
    exact k h H1 locs1 la hP1 hS1 hl
  · rw [if_neg hi] at h; cases h
theorem v_bast (C : Cx n D cy ad nL cc own R p s m args c) {k0 N : Nat} {f0 : Nat → Nat} {i : Int32} {x : Int32} {A : Option O} (hp : Pl sh n k0 (.inr (2, N, f0))) (hx : vp_nar .byte x = x) (hd : decode cc pc = .ok (.bastore, 1)) (h : (if inB i N then A else none) = some out) (k : A = some out → V sh n D cy ad nL p l e R s m args below meth c Q (pc + 1) (lv) (st) (si u k0 i.toNatClampNeg x)) : V sh n D cy ad nL p l e R s m args below meth c Q (pc) (lv) (.int x :: .int i :: .ref (ad k0) :: st) (u) := by
  by_cases hi : inB i N
  · rw [if_pos hi] at h
    intro H locs la hP hS hl
    refine va_bast (D := D) (cl := vwCl) (tys := vty cy) C.1 C.2.1 C.2.2.2.2.2.1 hP (wl_D C.2.2.2.2.2.2.2.1) hS k0 2 (wE_a hp (by omega)) rfl (inB_vp hi) hd (fun H1 locs1 hP1 hD1 hS1 => ?_)
    rw [hx] at hP1
    rw [wl_set, wE_si (sE_a hp (by omega))] at hP1
    exact k h H1 locs1 la hP1 hS1 hl
  · rw [if_neg hi] at h; cases h
theorem v_last (C : Cx n D cy ad nL cc own R p s m args c) {k0 N : Nat} {f0 : Nat → Nat} {i : Int32} {x : Int64} {A : Option O} (hp : Pl sh n k0 (.inr (3, N, f0))) (hd : decode cc pc = .ok (.lastore, 1)) (h : (if inB i N then A else none) = some out) (k : A = some out → V sh n D cy ad nL p l e R s m args below meth c Q (pc + 1) (lv) (st) (sl u k0 i.toNatClampNeg x)) : V sh n D cy ad nL p l e R s m args below meth c Q (pc) (lv) (.long x :: .int i :: .ref (ad k0) :: st) (u) := by
  by_cases hi : inB i N
  · rw [if_pos hi] at h
    intro H locs la hP hS hl
    refine va_last (D := D) (cl := vwCl) (tys := vty cy) C.1 C.2.1 C.2.2.2.2.2.1 hP (wl_D C.2.2.2.2.2.2.2.1) hS k0 3 (wE_al hp) rfl (inB_vp hi) hd (fun H1 locs1 hP1 hD1 hS1 => ?_)
    rw [wl_set, wE_sl (sE_al hp)] at hP1
    exact k h H1 locs1 la hP1 hS1 hl
  · rw [if_neg hi] at h; cases h
theorem bz_nar (b : Bool) : vp_nar .boolean (bz b) = bz b := by cases b <;> decide
theorem v_alen0 (C : Cx n D cy ad nL cc own R p s m args c) {k0 N : Nat} {f0 : Nat → Nat} {v : Int32} (hp : Pl sh n k0 (.inr (0, N, f0))) (hv : Int32.ofNat N = v) (hd : decode cc pc = .ok (.arraylength, 1)) (k : V sh n D cy ad nL p l e R s m args below meth c Q (pc + 1) (lv) (.int v :: st) (u)) : V sh n D cy ad nL p l e R s m args below meth c Q (pc) (lv) (.ref (ad k0) :: st) (u) := fun H locs la hP hS hl =>  va_alen (D := D) (cl := vwCl) (tys := vty cy) C.1 C.2.1 C.2.2.2.2.2.1 hP k0 0 (wE_a hp (by omega)) rfl hv hd (k H locs la hP hS hl)
theorem v_alen1 (C : Cx n D cy ad nL cc own R p s m args c) {k0 N : Nat} {f0 : Nat → Nat} {v : Int32} (hp : Pl sh n k0 (.inr (1, N, f0))) (hv : Int32.ofNat N = v) (hd : decode cc pc = .ok (.arraylength, 1)) (k : V sh n D cy ad nL p l e R s m args below meth c Q (pc + 1) (lv) (.int v :: st) (u)) : V sh n D cy ad nL p l e R s m args below meth c Q (pc) (lv) (.ref (ad k0) :: st) (u) := fun H locs la hP hS hl =>  va_alen (D := D) (cl := vwCl) (tys := vty cy) C.1 C.2.1 C.2.2.2.2.2.1 hP k0 1 (wE_a hp (by omega)) rfl hv hd (k H locs la hP hS hl)
theorem v_alen2 (C : Cx n D cy ad nL cc own R p s m args c) {k0 N : Nat} {f0 : Nat → Nat} {v : Int32} (hp : Pl sh n k0 (.inr (2, N, f0))) (hv : Int32.ofNat N = v) (hd : decode cc pc = .ok (.arraylength, 1)) (k : V sh n D cy ad nL p l e R s m args below meth c Q (pc + 1) (lv) (.int v :: st) (u)) : V sh n D cy ad nL p l e R s m args below meth c Q (pc) (lv) (.ref (ad k0) :: st) (u) := fun H locs la hP hS hl =>  va_alen (D := D) (cl := vwCl) (tys := vty cy) C.1 C.2.1 C.2.2.2.2.2.1 hP k0 2 (wE_a hp (by omega)) rfl hv hd (k H locs la hP hS hl)
theorem v_alen3 (C : Cx n D cy ad nL cc own R p s m args c) {k0 N : Nat} {f0 : Nat → Nat} {v : Int32} (hp : Pl sh n k0 (.inr (3, N, f0))) (hv : Int32.ofNat N = v) (hd : decode cc pc = .ok (.arraylength, 1)) (k : V sh n D cy ad nL p l e R s m args below meth c Q (pc + 1) (lv) (.int v :: st) (u)) : V sh n D cy ad nL p l e R s m args below meth c Q (pc) (lv) (.ref (ad k0) :: st) (u) := fun H locs la hP hS hl =>  va_alen (D := D) (cl := vwCl) (tys := vty cy) C.1 C.2.1 C.2.2.2.2.2.1 hP k0 3 (wE_al hp) rfl hv hd (k H locs la hP hS hl)
end VR
end
section

def qI (sh : Nat → Sh) (n : Nat) (D : va_G) (cy : Nat → ClassId) (ad : Nat → Nat) (r : Int32) (u : Mem) : Array Value → State → Outcome → State → Prop := va_Qi (fun r2 (_ : Unit) => r2 = r) (fun _ t => wv sh n D cy ad u t) (rA ad n)
def qL (sh : Nat → Sh) (n : Nat) (D : va_G) (cy : Nat → ClassId) (ad : Nat → Nat) (r : Int64) (u : Mem) : Array Value → State → Outcome → State → Prop := va_Ql (fun r2 (_ : Unit) => r2 = r) (fun _ t => wv sh n D cy ad u t) (rA ad n)
def qV (sh : Nat → Sh) (n : Nat) (D : va_G) (cy : Nat → ClassId) (ad : Nat → Nat) (u : Mem) : Array Value → State → Outcome → State → Prop := va_Qv (fun (_ : Unit) => True) (fun _ t => wv sh n D cy ad u t) (rA ad n)
def qA (sh : Nat → Sh) (n : Nat) (D : va_G) (cy : Nat → ClassId) (ad : Nat → Nat) (r : Nat) (u : Mem) : Array Value → State → Outcome → State → Prop := va_Qr (fun (_ : Unit) => True) (fun _ a t => a = ad (5 * r) ∧ wv sh n D cy ad u t) (rA ad n)
def rmK (f k : Nat) : Room := { frames := f, cells := 0, slots := 0, locals := k }
/-- the words of a virtual, a static call -/
def Mv (own : String) (index : Nat) (y : MethodName) (b : ByteArray) (k : Nat) (r : Option FieldType) (ci nA : Nat) : Prop := Cond.methodLink own index y ∈ gw ∧ Cond.instanceMethod y ∈ gw ∧ Cond.selects y.cls y y ∈ gw ∧ Cond.initialized y.cls ∈ gw ∧ Cond.code y b k r ∈ gw ∧ (y.cls ≠ "java/lang/invoke/MethodHandle" ∧ y.cls ≠ "java/lang/invoke/VarHandle" ∧ (parseMethodDescriptor y.desc).map (fun d => d.parameters.length) = some nA) ∧ (vwCl[ci]?).map (fun q => q.1) = some y.cls
def Ms (own : String) (index : Nat) (y : MethodName) (b : ByteArray) (k : Nat) (r : Option FieldType) (nA : Nat) : Prop := Cond.methodLink own index y ∈ gw ∧ Cond.static y ∈ gw ∧ Cond.initialized y.cls ∈ gw ∧ Cond.code y b k r ∈ gw ∧ (y.cls ≠ "java/lang/invoke/MethodHandle" ∧ y.cls ≠ "java/lang/invoke/VarHandle" ∧ (parseMethodDescriptor y.desc).map (fun d => d.parameters.length) = some nA)
def Mn (own : String) (index : Nat) (y : MethodName) (host : String) (b : ByteArray) (k : Nat) (r : Option FieldType) (nA : Nat) : Prop := Cond.methodLinkNest own index y host ∈ nws ∧ Cond.static y ∈ gw ∧ Cond.initialized y.cls ∈ gw ∧ Cond.code y b k r ∈ gw ∧ (y.cls ≠ "java/lang/invoke/MethodHandle" ∧ y.cls ≠ "java/lang/invoke/VarHandle" ∧ (parseMethodDescriptor y.desc).map (fun d => d.parameters.length) = some nA)
section VM
variable {sh : Nat → Sh} {n : Nat} {D : va_G} {cy : Nat → ClassId} {ad : Nat → Nat} {nL : Nat} {cc : ByteArray} {own : String} {p : Program} {l : Launch} {e : Env} {R : Room} {s : State} {m : MethodId} {args : Array Value} {below : List Frame} {meth : Method} {c : Code} {Q : State → Prop} {pc : Nat} {lv : List (Nat × Value)} {st st0 : List Value} {u u2 : Mem}
theorem wv_end (C : Cx n D cy ad nL cc own R p s m args c) {H : Heap} {t : State} (hP : va_P D vwCl (wl ad n (wE cy ad sh u)) H) (ht : t.heap = H) (hW : s.WarmedH t.vm) : wv sh n D cy ad u t := ⟨by rw [ht]; exact hP, va_K.moved hW.alike C.2.2.2.2.2.1, nwK_warm hW C.2.2.2.2.2.2.1, C.2.2.2.2.2.2.2.1⟩
theorem wv_blind {av : List Value} : FrameBlind (va_Pc av (wv sh n D cy ad u)) := fun a U g mk q => ⟨q.1, q.2.1, va_K.moved (u := U) (U := U.calling g mk a) (Vm.Alike.refl U.vm) q.2.2.1, nwK_same (s := U) (U := U.calling g mk a) rfl q.2.2.2.1, q.2.2.2.2⟩
theorem v_iret (C : Cx n D cy ad nL cc own R p s m args c) (hr : meth.sig.returnType = some .int) (hlk : meth.locks = false) {v : Int32} (hd : decode cc pc = .ok (.ireturn, 1)) : V sh n D cy ad nL p l e R s m args below meth c (MQ below (qI sh n D cy ad v u) args s 0 0 (rA ad n)) (pc) (lv) ([.int v]) (u) :=
  fun H locs la hP hS hl => W.iret C.1 C.2.1 hr (fun t ht hW => ⟨⟨v, (), rfl, rfl, wv_end C hP ht hW⟩, hS.F ht⟩) hS.2.2 hd hlk
theorem v_zret (C : Cx n D cy ad nL cc own R p s m args c) (hr : meth.sig.returnType = some .boolean) (hlk : meth.locks = false) {b : Bool} (hd : decode cc pc = .ok (.ireturn, 1)) : V sh n D cy ad nL p l e R s m args below meth c (MQ below (qI sh n D cy ad (bz b) u) args s 0 0 (rA ad n)) (pc) (lv) ([.int (bz b)]) (u) :=
  fun H locs la hP hS hl => W.zret C.1 C.2.1 hr (by cases b <;> rfl) (fun t ht hW => ⟨⟨bz b, (), rfl, rfl, wv_end C hP ht hW⟩, hS.F ht⟩) hS.2.2 hd hlk
theorem v_lret (C : Cx n D cy ad nL cc own R p s m args c) (hr : meth.sig.returnType = some .long) (hlk : meth.locks = false) {v : Int64} (hd : decode cc pc = .ok (.lreturn, 1)) : V sh n D cy ad nL p l e R s m args below meth c (MQ below (qL sh n D cy ad v u) args s 0 0 (rA ad n)) (pc) (lv) ([.long v]) (u) :=
  fun H locs la hP hS hl => W.lret C.1 C.2.1 hr (fun t ht hW => ⟨⟨v, (), rfl, rfl, wv_end C hP ht hW⟩, hS.F ht⟩) hS.2.2 hd hlk
theorem v_vret (C : Cx n D cy ad nL cc own R p s m args c) (hr : meth.sig.returnType = none) (hlk : meth.locks = false) (hd : decode cc pc = .ok (.return_, 1)) : V sh n D cy ad nL p l e R s m args below meth c (MQ below (qV sh n D cy ad u) args s 0 0 (rA ad n)) (pc) (lv) ([]) (u) :=
  fun H locs la hP hS hl => W.vret C.1 C.2.1 hr (fun t ht hW => ⟨⟨(), rfl, trivial, wv_end C hP ht hW⟩, hS.F ht⟩) hS.2.2 hd hlk
theorem v_aret (C : Cx n D cy ad nL cc own R p s m args c) {Cn : String} (hr : meth.sig.returnType = some (.object Cn)) (hlk : meth.locks = false) {i : Nat} (hd : decode cc pc = .ok (.areturn, 1)) : V sh n D cy ad nL p l e R s m args below meth c (MQ below (qA sh n D cy ad i u) args s 0 0 (rA ad n)) (pc) (lv) ([.ref (ad (5 * i))]) (u) :=
  fun H locs la hP hS hl => W.aret C.1 C.2.1 hr (Or.inl ⟨_, rfl⟩) (fun t ht hW => ⟨⟨(), ad (5 * i), rfl, trivial, rfl, wv_end C hP ht hW⟩, hS.F ht⟩) hS.2.2 hd hlk
theorem met_of {y : MethodName} {ret : Option FieldType} {av : List Value} {Qc : Array Value → State → Outcome → State → Prop} (hy : plainName y.cls = true) (hn : (lg_sl av).length ≤ nL) (body : ∀ (p : Program) (e : Env) (s : State) (m : MethodId) (below : List Frame) (meth : Method) (c : Code), Cx n D cy ad nL cc y.cls R p s m av.toArray c → meth.sig.returnType = ret → meth.locks = false → V sh n D cy ad nL p l e R s m av.toArray below meth c (MQ below Qc av.toArray s 0 0 (rA ad n)) (0) (lv_args 0 av) ([]) (u)) : Met l y (.code y cc nL ret :: gw) R (va_Pc av (wv sh n D cy ad u)) Qc 0 0 (rA ad n) := by
  refine Met.ofW (cc := cc) (maxL := nL) (ret := ret) hy rfl ?_
  intro p e s m args below meth c s₁ B hml hv
  obtain ⟨rfl, hw⟩ := hv
  have hl := lv_entry av hn
  rw [lg_entry_eq]
  exact body p e s m below meth c ⟨B.exec, B.bytes, hml, findClass_of_methodNamed B.named, fun w h => atoms_spec (ws := Cond.code y cc nL ret :: gw) B.pre w (List.mem_cons_of_mem _ h), hw.2.1, hw.2.2.1, hw.2.2.2, trivial⟩ B.returns B.notSynchronized s.heap [] _ hw.1 va_S.rf hl

theorem v_callVi (C : Cx n D cy ad nL cc own R p s m args c) {y : MethodName} {bytes : ByteArray} {maxL index nA : Nat} {ret : Option FieldType} {rm : Room} {k0 ci : Nat} {l0 : List Nat} (As : List Value) {r : Int32} (hM : Met l y (.code y bytes maxL ret :: gw) rm (va_Pc (.ref (ad k0) :: As) (wv sh n D cy ad u)) (qI sh n D cy ad r u2) 0 0 (rA ad n)) (hm : Mv own index y bytes maxL ret ci nA) (hp : Pl sh n k0 (.inl (ci, l0))) (hroom : rm.frames + 1 ≤ R.frames ∧ 8 + (maxL + 11) + rm.locals ≤ R.locals) (hrc : rm.cells = 0 ∧ rm.slots = 0) (hn : As.length = nA) (hs : st0 = As.reverse ++ .ref (ad k0) :: st) (hst : (st.map fun v => v.category).sum ≤ 8) (hd : decode cc pc = .ok (.invokevirtual index, 3)) (k : V sh n D cy ad nL p l e R s m args below meth c (Q) (pc + 3) (lv) (.int r :: st) (u2)) : V sh n D cy ad nL p l e R s m args below meth c (Q) (pc) (lv) (st0) (u) := by
  subst hs
  intro H locs la hP hS hl
  have hfix : CallFix p m c cc nL s args gw own := ⟨C.1, C.2.1, C.2.2.1, C.2.2.2.1, C.2.2.2.2.1⟩
  have hpre : ∀ U : State, U.heap = H → s.WarmedH U.vm → va_Pc (.ref (ad k0) :: As) (wv sh n D cy ad u) ((.ref (ad k0) :: As) : List Value).toArray U := fun U hU hW => ⟨rfl, wv_end C hP hU hW⟩
  obtain ⟨m1, m2, m3, m4, m5, m6, m7⟩ := hm
  obtain ⟨qc, hqc, hqn⟩ : ∃ qc : vw_C, vwCl[ci]? = some qc ∧ qc.1 = y.cls := by
    cases hq : vwCl[ci]? with
    | none => rw [hq] at m7; cases m7
    | some qc => rw [hq] at m7; exact ⟨qc, rfl, Option.some.inj m7⟩
  have hrecv := va_recv C.2.2.2.2.2.1 hP hqc (wE_o hp)
  rw [hqn] at hrecv
  have cw : CallW R s args own y.cls index y bytes maxL ret (.code y bytes maxL ret :: gw) rm 0 0 nA := ⟨callB_of nA C.2.2.2.2.1 (gw_call m5) rfl hrc.1 hrc.2 (C.2.2.2.2.1 _ m4) (C.2.2.2.2.1 _ m1) m6 hroom, C.2.2.2.2.1 _ m2, C.2.2.2.2.1 _ m3⟩
  refine va_calli (va_runV (As := As) (rest := st) hfix hM cw ⟨wv_blind, hrecv, hpre⟩ rfl hn hl.1 rfl (lv_room hst) hd ⟨by omega, by omega⟩) hS (fun q _ h => h) (fun q h => h) (fun r2 x t H1 locs1 ht hvm hw hB hz1 hk1 hS1 => ?_)
  subst hw; 
  have hP1 := hB.1
  rw [ht] at hP1
  exact k H1 locs1 la hP1 hS1 hl
theorem v_callSi (C : Cx n D cy ad nL cc own R p s m args c) {y : MethodName} {bytes : ByteArray} {maxL index nA : Nat} {ret : Option FieldType} {rm : Room} (As : List Value) {r : Int32} (hM : Met l y (.code y bytes maxL ret :: gw) rm (va_Pc As (wv sh n D cy ad u)) (qI sh n D cy ad r u2) 0 0 (rA ad n)) (hm : Ms own index y bytes maxL ret nA) (hroom : rm.frames + 1 ≤ R.frames ∧ 8 + (maxL + 11) + rm.locals ≤ R.locals) (hrc : rm.cells = 0 ∧ rm.slots = 0) (hn : As.length = nA) (hs : st0 = As.reverse ++ st) (hst : (st.map fun v => v.category).sum ≤ 8) (hd : decode cc pc = .ok (.invokestatic index, 3)) (k : V sh n D cy ad nL p l e R s m args below meth c (Q) (pc + 3) (lv) (.int r :: st) (u2)) : V sh n D cy ad nL p l e R s m args below meth c (Q) (pc) (lv) (st0) (u) := by
  subst hs
  intro H locs la hP hS hl
  have hfix : CallFix p m c cc nL s args gw own := ⟨C.1, C.2.1, C.2.2.1, C.2.2.2.1, C.2.2.2.2.1⟩
  have hpre : ∀ U : State, U.heap = H → s.WarmedH U.vm → va_Pc As (wv sh n D cy ad u) (As : List Value).toArray U := fun U hU hW => ⟨rfl, wv_end C hP hU hW⟩
  obtain ⟨m1, m2, m4, m5, m6⟩ := hm
  have cw : CallB R s args own index y bytes maxL ret (.code y bytes maxL ret :: gw) rm 0 0 nA ∧ (Cond.static y).before args s = true := ⟨callB_of nA C.2.2.2.2.1 (gw_call m5) rfl hrc.1 hrc.2 (C.2.2.2.2.1 _ m4) (C.2.2.2.2.1 _ m1) m6 hroom, C.2.2.2.2.1 _ m2⟩
  refine va_calli (va_runS (As := As) (rest := st) hfix hM cw ⟨wv_blind, hpre⟩ rfl hn hl.1 rfl (lv_room hst) hd ⟨by omega, by omega⟩) hS (fun q _ h => h) (fun q h => h) (fun r2 x t H1 locs1 ht hvm hw hB hz1 hk1 hS1 => ?_)
  subst hw; 
  have hP1 := hB.1
  rw [ht] at hP1
  exact k H1 locs1 la hP1 hS1 hl
theorem v_callNi (C : Cx n D cy ad nL cc own R p s m args c) {y : MethodName} {bytes : ByteArray} {maxL index nA : Nat} {ret : Option FieldType} {rm : Room} {host : String} (As : List Value) {r : Int32} (hM : Met l y (.code y bytes maxL ret :: gw) rm (va_Pc As (wv sh n D cy ad u)) (qI sh n D cy ad r u2) 0 0 (rA ad n)) (hm : Mn own index y host bytes maxL ret nA) (hroom : rm.frames + 1 ≤ R.frames ∧ 8 + (maxL + 11) + rm.locals ≤ R.locals) (hrc : rm.cells = 0 ∧ rm.slots = 0) (hn : As.length = nA) (hs : st0 = As.reverse ++ st) (hst : (st.map fun v => v.category).sum ≤ 8) (hd : decode cc pc = .ok (.invokestatic index, 3)) (k : V sh n D cy ad nL p l e R s m args below meth c (Q) (pc + 3) (lv) (.int r :: st) (u2)) : V sh n D cy ad nL p l e R s m args below meth c (Q) (pc) (lv) (st0) (u) := by
  subst hs
  intro H locs la hP hS hl
  have hfix : CallFix p m c cc nL s args gw own := ⟨C.1, C.2.1, C.2.2.1, C.2.2.2.1, C.2.2.2.2.1⟩
  have hpre : ∀ U : State, U.heap = H → s.WarmedH U.vm → va_Pc As (wv sh n D cy ad u) (As : List Value).toArray U := fun U hU hW => ⟨rfl, wv_end C hP hU hW⟩
  obtain ⟨m1, m2, m4, m5, m6⟩ := hm
  have cw : va_CN R s args own index y host bytes maxL ret (.code y bytes maxL ret :: gw) rm 0 0 nA ∧ (Cond.static y).before args s = true ∧ True := ⟨va_cnB nA C.2.2.2.2.1 (gw_call m5) rfl hrc.1 hrc.2 (C.2.2.2.2.2.2.1 _ m1) (C.2.2.2.2.1 _ m4) m6 hroom, C.2.2.2.2.1 _ m2, trivial⟩
  refine va_calli (va_runSN (As := As) (rest := st) hfix hM cw ⟨wv_blind, hpre⟩ rfl hn hl.1 rfl (lv_room hst) hd ⟨by omega, by omega⟩) hS (fun q _ h => h) (fun q h => h) (fun r2 x t H1 locs1 ht hvm hw hB hz1 hk1 hS1 => ?_)
  subst hw; 
  have hP1 := hB.1
  rw [ht] at hP1
  exact k H1 locs1 la hP1 hS1 hl
theorem v_callVl (C : Cx n D cy ad nL cc own R p s m args c) {y : MethodName} {bytes : ByteArray} {maxL index nA : Nat} {ret : Option FieldType} {rm : Room} {k0 ci : Nat} {l0 : List Nat} (As : List Value) {r : Int64} (hM : Met l y (.code y bytes maxL ret :: gw) rm (va_Pc (.ref (ad k0) :: As) (wv sh n D cy ad u)) (qL sh n D cy ad r u2) 0 0 (rA ad n)) (hm : Mv own index y bytes maxL ret ci nA) (hp : Pl sh n k0 (.inl (ci, l0))) (hroom : rm.frames + 1 ≤ R.frames ∧ 8 + (maxL + 11) + rm.locals ≤ R.locals) (hrc : rm.cells = 0 ∧ rm.slots = 0) (hn : As.length = nA) (hs : st0 = As.reverse ++ .ref (ad k0) :: st) (hst : (st.map fun v => v.category).sum ≤ 8) (hd : decode cc pc = .ok (.invokevirtual index, 3)) (k : V sh n D cy ad nL p l e R s m args below meth c (Q) (pc + 3) (lv) (.long r :: st) (u2)) : V sh n D cy ad nL p l e R s m args below meth c (Q) (pc) (lv) (st0) (u) := by
  subst hs
  intro H locs la hP hS hl
  have hfix : CallFix p m c cc nL s args gw own := ⟨C.1, C.2.1, C.2.2.1, C.2.2.2.1, C.2.2.2.2.1⟩
  have hpre : ∀ U : State, U.heap = H → s.WarmedH U.vm → va_Pc (.ref (ad k0) :: As) (wv sh n D cy ad u) ((.ref (ad k0) :: As) : List Value).toArray U := fun U hU hW => ⟨rfl, wv_end C hP hU hW⟩
  obtain ⟨m1, m2, m3, m4, m5, m6, m7⟩ := hm
  obtain ⟨qc, hqc, hqn⟩ : ∃ qc : vw_C, vwCl[ci]? = some qc ∧ qc.1 = y.cls := by
    cases hq : vwCl[ci]? with
    | none => rw [hq] at m7; cases m7
    | some qc => rw [hq] at m7; exact ⟨qc, rfl, Option.some.inj m7⟩
  have hrecv := va_recv C.2.2.2.2.2.1 hP hqc (wE_o hp)
  rw [hqn] at hrecv
  have cw : CallW R s args own y.cls index y bytes maxL ret (.code y bytes maxL ret :: gw) rm 0 0 nA := ⟨callB_of nA C.2.2.2.2.1 (gw_call m5) rfl hrc.1 hrc.2 (C.2.2.2.2.1 _ m4) (C.2.2.2.2.1 _ m1) m6 hroom, C.2.2.2.2.1 _ m2, C.2.2.2.2.1 _ m3⟩
  refine va_calll (va_runV (As := As) (rest := st) hfix hM cw ⟨wv_blind, hrecv, hpre⟩ rfl hn hl.1 rfl (lv_room hst) hd ⟨by omega, by omega⟩) hS (fun q _ h => h) (fun q h => h) (fun r2 x t H1 locs1 ht hvm hw hB hz1 hk1 hS1 => ?_)
  subst hw; 
  have hP1 := hB.1
  rw [ht] at hP1
  exact k H1 locs1 la hP1 hS1 hl
theorem v_callSl (C : Cx n D cy ad nL cc own R p s m args c) {y : MethodName} {bytes : ByteArray} {maxL index nA : Nat} {ret : Option FieldType} {rm : Room} (As : List Value) {r : Int64} (hM : Met l y (.code y bytes maxL ret :: gw) rm (va_Pc As (wv sh n D cy ad u)) (qL sh n D cy ad r u2) 0 0 (rA ad n)) (hm : Ms own index y bytes maxL ret nA) (hroom : rm.frames + 1 ≤ R.frames ∧ 8 + (maxL + 11) + rm.locals ≤ R.locals) (hrc : rm.cells = 0 ∧ rm.slots = 0) (hn : As.length = nA) (hs : st0 = As.reverse ++ st) (hst : (st.map fun v => v.category).sum ≤ 8) (hd : decode cc pc = .ok (.invokestatic index, 3)) (k : V sh n D cy ad nL p l e R s m args below meth c (Q) (pc + 3) (lv) (.long r :: st) (u2)) : V sh n D cy ad nL p l e R s m args below meth c (Q) (pc) (lv) (st0) (u) := by
  subst hs
  intro H locs la hP hS hl
  have hfix : CallFix p m c cc nL s args gw own := ⟨C.1, C.2.1, C.2.2.1, C.2.2.2.1, C.2.2.2.2.1⟩
  have hpre : ∀ U : State, U.heap = H → s.WarmedH U.vm → va_Pc As (wv sh n D cy ad u) (As : List Value).toArray U := fun U hU hW => ⟨rfl, wv_end C hP hU hW⟩
  obtain ⟨m1, m2, m4, m5, m6⟩ := hm
  have cw : CallB R s args own index y bytes maxL ret (.code y bytes maxL ret :: gw) rm 0 0 nA ∧ (Cond.static y).before args s = true := ⟨callB_of nA C.2.2.2.2.1 (gw_call m5) rfl hrc.1 hrc.2 (C.2.2.2.2.1 _ m4) (C.2.2.2.2.1 _ m1) m6 hroom, C.2.2.2.2.1 _ m2⟩
  refine va_calll (va_runS (As := As) (rest := st) hfix hM cw ⟨wv_blind, hpre⟩ rfl hn hl.1 rfl (lv_room hst) hd ⟨by omega, by omega⟩) hS (fun q _ h => h) (fun q h => h) (fun r2 x t H1 locs1 ht hvm hw hB hz1 hk1 hS1 => ?_)
  subst hw; 
  have hP1 := hB.1
  rw [ht] at hP1
  exact k H1 locs1 la hP1 hS1 hl
theorem v_callNl (C : Cx n D cy ad nL cc own R p s m args c) {y : MethodName} {bytes : ByteArray} {maxL index nA : Nat} {ret : Option FieldType} {rm : Room} {host : String} (As : List Value) {r : Int64} (hM : Met l y (.code y bytes maxL ret :: gw) rm (va_Pc As (wv sh n D cy ad u)) (qL sh n D cy ad r u2) 0 0 (rA ad n)) (hm : Mn own index y host bytes maxL ret nA) (hroom : rm.frames + 1 ≤ R.frames ∧ 8 + (maxL + 11) + rm.locals ≤ R.locals) (hrc : rm.cells = 0 ∧ rm.slots = 0) (hn : As.length = nA) (hs : st0 = As.reverse ++ st) (hst : (st.map fun v => v.category).sum ≤ 8) (hd : decode cc pc = .ok (.invokestatic index, 3)) (k : V sh n D cy ad nL p l e R s m args below meth c (Q) (pc + 3) (lv) (.long r :: st) (u2)) : V sh n D cy ad nL p l e R s m args below meth c (Q) (pc) (lv) (st0) (u) := by
  subst hs
  intro H locs la hP hS hl
  have hfix : CallFix p m c cc nL s args gw own := ⟨C.1, C.2.1, C.2.2.1, C.2.2.2.1, C.2.2.2.2.1⟩
  have hpre : ∀ U : State, U.heap = H → s.WarmedH U.vm → va_Pc As (wv sh n D cy ad u) (As : List Value).toArray U := fun U hU hW => ⟨rfl, wv_end C hP hU hW⟩
  obtain ⟨m1, m2, m4, m5, m6⟩ := hm
  have cw : va_CN R s args own index y host bytes maxL ret (.code y bytes maxL ret :: gw) rm 0 0 nA ∧ (Cond.static y).before args s = true ∧ True := ⟨va_cnB nA C.2.2.2.2.1 (gw_call m5) rfl hrc.1 hrc.2 (C.2.2.2.2.2.2.1 _ m1) (C.2.2.2.2.1 _ m4) m6 hroom, C.2.2.2.2.1 _ m2, trivial⟩
  refine va_calll (va_runSN (As := As) (rest := st) hfix hM cw ⟨wv_blind, hpre⟩ rfl hn hl.1 rfl (lv_room hst) hd ⟨by omega, by omega⟩) hS (fun q _ h => h) (fun q h => h) (fun r2 x t H1 locs1 ht hvm hw hB hz1 hk1 hS1 => ?_)
  subst hw; 
  have hP1 := hB.1
  rw [ht] at hP1
  exact k H1 locs1 la hP1 hS1 hl
theorem v_callVv (C : Cx n D cy ad nL cc own R p s m args c) {y : MethodName} {bytes : ByteArray} {maxL index nA : Nat} {ret : Option FieldType} {rm : Room} {k0 ci : Nat} {l0 : List Nat} (As : List Value)  (hM : Met l y (.code y bytes maxL ret :: gw) rm (va_Pc (.ref (ad k0) :: As) (wv sh n D cy ad u)) (qV sh n D cy ad  u2) 0 0 (rA ad n)) (hm : Mv own index y bytes maxL ret ci nA) (hp : Pl sh n k0 (.inl (ci, l0))) (hroom : rm.frames + 1 ≤ R.frames ∧ 8 + (maxL + 11) + rm.locals ≤ R.locals) (hrc : rm.cells = 0 ∧ rm.slots = 0) (hn : As.length = nA) (hs : st0 = As.reverse ++ .ref (ad k0) :: st) (hst : (st.map fun v => v.category).sum ≤ 8) (hd : decode cc pc = .ok (.invokevirtual index, 3)) (k : V sh n D cy ad nL p l e R s m args below meth c (Q) (pc + 3) (lv) (st) (u2)) : V sh n D cy ad nL p l e R s m args below meth c (Q) (pc) (lv) (st0) (u) := by
  subst hs
  intro H locs la hP hS hl
  have hfix : CallFix p m c cc nL s args gw own := ⟨C.1, C.2.1, C.2.2.1, C.2.2.2.1, C.2.2.2.2.1⟩
  have hpre : ∀ U : State, U.heap = H → s.WarmedH U.vm → va_Pc (.ref (ad k0) :: As) (wv sh n D cy ad u) ((.ref (ad k0) :: As) : List Value).toArray U := fun U hU hW => ⟨rfl, wv_end C hP hU hW⟩
  obtain ⟨m1, m2, m3, m4, m5, m6, m7⟩ := hm
  obtain ⟨qc, hqc, hqn⟩ : ∃ qc : vw_C, vwCl[ci]? = some qc ∧ qc.1 = y.cls := by
    cases hq : vwCl[ci]? with
    | none => rw [hq] at m7; cases m7
    | some qc => rw [hq] at m7; exact ⟨qc, rfl, Option.some.inj m7⟩
  have hrecv := va_recv C.2.2.2.2.2.1 hP hqc (wE_o hp)
  rw [hqn] at hrecv
  have cw : CallW R s args own y.cls index y bytes maxL ret (.code y bytes maxL ret :: gw) rm 0 0 nA := ⟨callB_of nA C.2.2.2.2.1 (gw_call m5) rfl hrc.1 hrc.2 (C.2.2.2.2.1 _ m4) (C.2.2.2.2.1 _ m1) m6 hroom, C.2.2.2.2.1 _ m2, C.2.2.2.2.1 _ m3⟩
  refine va_callv (va_runV (As := As) (rest := st) hfix hM cw ⟨wv_blind, hrecv, hpre⟩ rfl hn hl.1 rfl (lv_room hst) hd ⟨by omega, by omega⟩) hS (fun q _ h => h) (fun q h => h) (fun x t H1 locs1 ht hvm hw hB hz1 hk1 hS1 => ?_)
  have hP1 := hB.1
  rw [ht] at hP1
  exact k H1 locs1 la hP1 hS1 hl
theorem v_callSv (C : Cx n D cy ad nL cc own R p s m args c) {y : MethodName} {bytes : ByteArray} {maxL index nA : Nat} {ret : Option FieldType} {rm : Room} (As : List Value)  (hM : Met l y (.code y bytes maxL ret :: gw) rm (va_Pc As (wv sh n D cy ad u)) (qV sh n D cy ad  u2) 0 0 (rA ad n)) (hm : Ms own index y bytes maxL ret nA) (hroom : rm.frames + 1 ≤ R.frames ∧ 8 + (maxL + 11) + rm.locals ≤ R.locals) (hrc : rm.cells = 0 ∧ rm.slots = 0) (hn : As.length = nA) (hs : st0 = As.reverse ++ st) (hst : (st.map fun v => v.category).sum ≤ 8) (hd : decode cc pc = .ok (.invokestatic index, 3)) (k : V sh n D cy ad nL p l e R s m args below meth c (Q) (pc + 3) (lv) (st) (u2)) : V sh n D cy ad nL p l e R s m args below meth c (Q) (pc) (lv) (st0) (u) := by
  subst hs
  intro H locs la hP hS hl
  have hfix : CallFix p m c cc nL s args gw own := ⟨C.1, C.2.1, C.2.2.1, C.2.2.2.1, C.2.2.2.2.1⟩
  have hpre : ∀ U : State, U.heap = H → s.WarmedH U.vm → va_Pc As (wv sh n D cy ad u) (As : List Value).toArray U := fun U hU hW => ⟨rfl, wv_end C hP hU hW⟩
  obtain ⟨m1, m2, m4, m5, m6⟩ := hm
  have cw : CallB R s args own index y bytes maxL ret (.code y bytes maxL ret :: gw) rm 0 0 nA ∧ (Cond.static y).before args s = true := ⟨callB_of nA C.2.2.2.2.1 (gw_call m5) rfl hrc.1 hrc.2 (C.2.2.2.2.1 _ m4) (C.2.2.2.2.1 _ m1) m6 hroom, C.2.2.2.2.1 _ m2⟩
  refine va_callv (va_runS (As := As) (rest := st) hfix hM cw ⟨wv_blind, hpre⟩ rfl hn hl.1 rfl (lv_room hst) hd ⟨by omega, by omega⟩) hS (fun q _ h => h) (fun q h => h) (fun x t H1 locs1 ht hvm hw hB hz1 hk1 hS1 => ?_)
  have hP1 := hB.1
  rw [ht] at hP1
  exact k H1 locs1 la hP1 hS1 hl
theorem v_callNv (C : Cx n D cy ad nL cc own R p s m args c) {y : MethodName} {bytes : ByteArray} {maxL index nA : Nat} {ret : Option FieldType} {rm : Room} {host : String} (As : List Value)  (hM : Met l y (.code y bytes maxL ret :: gw) rm (va_Pc As (wv sh n D cy ad u)) (qV sh n D cy ad  u2) 0 0 (rA ad n)) (hm : Mn own index y host bytes maxL ret nA) (hroom : rm.frames + 1 ≤ R.frames ∧ 8 + (maxL + 11) + rm.locals ≤ R.locals) (hrc : rm.cells = 0 ∧ rm.slots = 0) (hn : As.length = nA) (hs : st0 = As.reverse ++ st) (hst : (st.map fun v => v.category).sum ≤ 8) (hd : decode cc pc = .ok (.invokestatic index, 3)) (k : V sh n D cy ad nL p l e R s m args below meth c (Q) (pc + 3) (lv) (st) (u2)) : V sh n D cy ad nL p l e R s m args below meth c (Q) (pc) (lv) (st0) (u) := by
  subst hs
  intro H locs la hP hS hl
  have hfix : CallFix p m c cc nL s args gw own := ⟨C.1, C.2.1, C.2.2.1, C.2.2.2.1, C.2.2.2.2.1⟩
  have hpre : ∀ U : State, U.heap = H → s.WarmedH U.vm → va_Pc As (wv sh n D cy ad u) (As : List Value).toArray U := fun U hU hW => ⟨rfl, wv_end C hP hU hW⟩
  obtain ⟨m1, m2, m4, m5, m6⟩ := hm
  have cw : va_CN R s args own index y host bytes maxL ret (.code y bytes maxL ret :: gw) rm 0 0 nA ∧ (Cond.static y).before args s = true ∧ True := ⟨va_cnB nA C.2.2.2.2.1 (gw_call m5) rfl hrc.1 hrc.2 (C.2.2.2.2.2.2.1 _ m1) (C.2.2.2.2.1 _ m4) m6 hroom, C.2.2.2.2.1 _ m2, trivial⟩
  refine va_callv (va_runSN (As := As) (rest := st) hfix hM cw ⟨wv_blind, hpre⟩ rfl hn hl.1 rfl (lv_room hst) hd ⟨by omega, by omega⟩) hS (fun q _ h => h) (fun q h => h) (fun x t H1 locs1 ht hvm hw hB hz1 hk1 hS1 => ?_)
  have hP1 := hB.1
  rw [ht] at hP1
  exact k H1 locs1 la hP1 hS1 hl
theorem v_callVa (C : Cx n D cy ad nL cc own R p s m args c) {y : MethodName} {bytes : ByteArray} {maxL index nA : Nat} {ret : Option FieldType} {rm : Room} {k0 ci : Nat} {l0 : List Nat} (As : List Value) {r : Nat} (hM : Met l y (.code y bytes maxL ret :: gw) rm (va_Pc (.ref (ad k0) :: As) (wv sh n D cy ad u)) (qA sh n D cy ad r u2) 0 0 (rA ad n)) (hm : Mv own index y bytes maxL ret ci nA) (hp : Pl sh n k0 (.inl (ci, l0))) (hroom : rm.frames + 1 ≤ R.frames ∧ 8 + (maxL + 11) + rm.locals ≤ R.locals) (hrc : rm.cells = 0 ∧ rm.slots = 0) (hn : As.length = nA) (hs : st0 = As.reverse ++ .ref (ad k0) :: st) (hst : (st.map fun v => v.category).sum ≤ 8) (hd : decode cc pc = .ok (.invokevirtual index, 3)) (k : V sh n D cy ad nL p l e R s m args below meth c (Q) (pc + 3) (lv) (.ref (ad (5 * r)) :: st) (u2)) : V sh n D cy ad nL p l e R s m args below meth c (Q) (pc) (lv) (st0) (u) := by
  subst hs
  intro H locs la hP hS hl
  have hfix : CallFix p m c cc nL s args gw own := ⟨C.1, C.2.1, C.2.2.1, C.2.2.2.1, C.2.2.2.2.1⟩
  have hpre : ∀ U : State, U.heap = H → s.WarmedH U.vm → va_Pc (.ref (ad k0) :: As) (wv sh n D cy ad u) ((.ref (ad k0) :: As) : List Value).toArray U := fun U hU hW => ⟨rfl, wv_end C hP hU hW⟩
  obtain ⟨m1, m2, m3, m4, m5, m6, m7⟩ := hm
  obtain ⟨qc, hqc, hqn⟩ : ∃ qc : vw_C, vwCl[ci]? = some qc ∧ qc.1 = y.cls := by
    cases hq : vwCl[ci]? with
    | none => rw [hq] at m7; cases m7
    | some qc => rw [hq] at m7; exact ⟨qc, rfl, Option.some.inj m7⟩
  have hrecv := va_recv C.2.2.2.2.2.1 hP hqc (wE_o hp)
  rw [hqn] at hrecv
  have cw : CallW R s args own y.cls index y bytes maxL ret (.code y bytes maxL ret :: gw) rm 0 0 nA := ⟨callB_of nA C.2.2.2.2.1 (gw_call m5) rfl hrc.1 hrc.2 (C.2.2.2.2.1 _ m4) (C.2.2.2.2.1 _ m1) m6 hroom, C.2.2.2.2.1 _ m2, C.2.2.2.2.1 _ m3⟩
  refine va_callr (va_runV (As := As) (rest := st) hfix hM cw ⟨wv_blind, hrecv, hpre⟩ rfl hn hl.1 rfl (lv_room hst) hd ⟨by omega, by omega⟩) hS (fun q _ h => h) (fun q h => h) (fun x a t H1 locs1 ht hvm hw hB hz1 hk1 hS1 => ?_)
  obtain ⟨rfl, hB⟩ := hB
  have hP1 := hB.1
  rw [ht] at hP1
  exact k H1 locs1 la hP1 hS1 hl
theorem v_mmax (C : Cx n D cy ad nL cc own R p s m args c) {x y : Int32} {index : Nat} (h1 : Cond.methodLink own index Lib.Math.max.name ∈ gw ∧ Cond.static Lib.Math.max.name ∈ gw ∧ Cond.initialized "java/lang/Math" ∈ gw ∧ Cond.code Lib.Math.max.name Lib.Math.max.code 2 (some .int) ∈ gw) (hf : 1 ≤ R.frames) (hlo : 8 + 15 ≤ R.locals) (hst : (st.map fun v => v.category).sum ≤ 8) (hd : decode cc pc = .ok (.invokestatic index, 3)) (k : V sh n D cy ad nL p l e R s m args below meth c (Q) (pc + 3) (lv) (.int (if x < y then y else x) :: st) (u)) : V sh n D cy ad nL p l e R s m args below meth c (Q) (pc) (lv) (.int y :: .int x :: st) (u) :=
  fun H locs la hP hS hl => va_mmax C.1 C.2.1 (C.2.2.1.trans hl.1.symm) C.2.2.2.1 (C.2.2.2.2.1 _ h1.1) (C.2.2.2.2.1 _ h1.2.1) (C.2.2.2.2.1 _ h1.2.2.1) (C.2.2.2.2.1 _ h1.2.2.2) hf (by omega) (Nat.zero_le _) (Nat.zero_le _) hd (k H locs la hP hS hl)
theorem v_mmin (C : Cx n D cy ad nL cc own R p s m args c) {x y : Int32} {index : Nat} (h1 : Cond.methodLink own index Lib.Math.min.name ∈ gw ∧ Cond.static Lib.Math.min.name ∈ gw ∧ Cond.initialized "java/lang/Math" ∈ gw ∧ Cond.code Lib.Math.min.name Lib.Math.min.code 2 (some .int) ∈ gw) (hf : 1 ≤ R.frames) (hlo : 8 + 15 ≤ R.locals) (hst : (st.map fun v => v.category).sum ≤ 8) (hd : decode cc pc = .ok (.invokestatic index, 3)) (k : V sh n D cy ad nL p l e R s m args below meth c (Q) (pc + 3) (lv) (.int (if y < x then y else x) :: st) (u)) : V sh n D cy ad nL p l e R s m args below meth c (Q) (pc) (lv) (.int y :: .int x :: st) (u) :=
  fun H locs la hP hS hl => va_mmin C.1 C.2.1 (C.2.2.1.trans hl.1.symm) C.2.2.2.1 (C.2.2.2.2.1 _ h1.1) (C.2.2.2.2.1 _ h1.2.1) (C.2.2.2.2.1 _ h1.2.2.1) (C.2.2.2.2.1 _ h1.2.2.2) hf (by omega) (Nat.zero_le _) (Nat.zero_le _) hd (k H locs la hP hS hl)
theorem v_mmax_long (C : Cx n D cy ad nL cc own R p s m args c) {x y : Int64} {index : Nat} (h1 : Cond.methodLink own index Lib.MathLoose.max_long.x ∈ gw ∧ Cond.static Lib.MathLoose.max_long.x ∈ gw ∧ Cond.initialized "java/lang/Math" ∈ gw ∧ Cond.code Lib.MathLoose.max_long.x Lib.MathLoose.max_long.code 4 (some .long) ∈ gw) (hf : 1 ≤ R.frames) (hlo : 8 + 15 ≤ R.locals) (hst : (st.map fun v => v.category).sum ≤ 8) (hd : decode cc pc = .ok (.invokestatic index, 3)) (k : V sh n D cy ad nL p l e R s m args below meth c (Q) (pc + 3) (lv) (.long (if y < x then x else y) :: st) (u)) : V sh n D cy ad nL p l e R s m args below meth c (Q) (pc) (lv) (.long y :: .long x :: st) (u) :=
  fun H locs la hP hS hl => va_mmax_long C.1 C.2.1 (C.2.2.1.trans hl.1.symm) C.2.2.2.1 (C.2.2.2.2.1 _ h1.1) (C.2.2.2.2.1 _ h1.2.1) (C.2.2.2.2.1 _ h1.2.2.1) (C.2.2.2.2.1 _ h1.2.2.2) hf (by omega) (Nat.zero_le _) (Nat.zero_le _) hd (k H locs la hP hS hl)
theorem v_mmin_long (C : Cx n D cy ad nL cc own R p s m args c) {x y : Int64} {index : Nat} (h1 : Cond.methodLink own index Lib.MathLoose.min_long.x ∈ gw ∧ Cond.static Lib.MathLoose.min_long.x ∈ gw ∧ Cond.initialized "java/lang/Math" ∈ gw ∧ Cond.code Lib.MathLoose.min_long.x Lib.MathLoose.min_long.code 4 (some .long) ∈ gw) (hf : 1 ≤ R.frames) (hlo : 8 + 15 ≤ R.locals) (hst : (st.map fun v => v.category).sum ≤ 8) (hd : decode cc pc = .ok (.invokestatic index, 3)) (k : V sh n D cy ad nL p l e R s m args below meth c (Q) (pc + 3) (lv) (.long (if y < x then y else x) :: st) (u)) : V sh n D cy ad nL p l e R s m args below meth c (Q) (pc) (lv) (.long y :: .long x :: st) (u) :=
  fun H locs la hP hS hl => va_mmin_long C.1 C.2.1 (C.2.2.1.trans hl.1.symm) C.2.2.2.1 (C.2.2.2.2.1 _ h1.1) (C.2.2.2.2.1 _ h1.2.1) (C.2.2.2.2.1 _ h1.2.2.1) (C.2.2.2.2.1 _ h1.2.2.2) hf (by omega) (Nat.zero_le _) (Nat.zero_le _) hd (k H locs la hP hS hl)
end VM
end
