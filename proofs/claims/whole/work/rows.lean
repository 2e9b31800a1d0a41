section
-- ===== PART A: goes FIRST, ahead of the names: the tables' words, and 'selects' of the private methods out of them =====
/-- a private method of a class that the tables say can be made, by its rows of tables_1 -/
def lw_okq (q : MethodName × Nat) : Prop := (q.1.cls ≠ "java/lang/invoke/MethodHandle" ∧ q.1.cls ≠ "java/lang/invoke/VarHandle") ∧ Cond.instantiable q.1.cls q.2 ∈ tables_1 ∧ Cond.privateMethod q.1 ∈ tables_1 ∧ Cond.instanceMethod q.1 ∈ tables_1
theorem lw_p0 : lw_okq (⟨"HostNames", "mapText", "(I)I"⟩, 10) := ⟨⟨by decide +kernel, by decide +kernel⟩, List.mem_of_getElem? (i := 11) (by decide +kernel), List.mem_of_getElem? (i := 163) (by decide +kernel), List.mem_of_getElem? (i := 164) (by decide +kernel)⟩
theorem lw_p1 : lw_okq (⟨"HostNames", "mapCode", "(IZZ)Z"⟩, 10) := ⟨⟨by decide +kernel, by decide +kernel⟩, List.mem_of_getElem? (i := 11) (by decide +kernel), List.mem_of_getElem? (i := 171) (by decide +kernel), List.mem_of_getElem? (i := 172) (by decide +kernel)⟩
theorem lw_p2 : lw_okq (⟨"HostNames", "mapOdd", "(I)V"⟩, 10) := ⟨⟨by decide +kernel, by decide +kernel⟩, List.mem_of_getElem? (i := 11) (by decide +kernel), List.mem_of_getElem? (i := 178) (by decide +kernel), List.mem_of_getElem? (i := 179) (by decide +kernel)⟩
theorem lw_p3 : lw_okq (⟨"HostNames$Composer", "takeApart", "(LHostNames$Row;)V"⟩, 1) := ⟨⟨by decide +kernel, by decide +kernel⟩, List.mem_of_getElem? (i := 58) (by decide +kernel), List.mem_of_getElem? (i := 211) (by decide +kernel), List.mem_of_getElem? (i := 212) (by decide +kernel)⟩
theorem lw_p4 : lw_okq (⟨"HostNames$Composer", "sortMarks", "()V"⟩, 1) := ⟨⟨by decide +kernel, by decide +kernel⟩, List.mem_of_getElem? (i := 58) (by decide +kernel), List.mem_of_getElem? (i := 228) (by decide +kernel), List.mem_of_getElem? (i := 229) (by decide +kernel)⟩
theorem lw_p5 : lw_okq (⟨"HostNames$Composer", "join", "(LHostNames$Row;)V"⟩, 1) := ⟨⟨by decide +kernel, by decide +kernel⟩, List.mem_of_getElem? (i := 58) (by decide +kernel), List.mem_of_getElem? (i := 239) (by decide +kernel), List.mem_of_getElem? (i := 240) (by decide +kernel)⟩
theorem lw_p6 : lw_okq (⟨"HostNames", "cutIntoLabels", "()V"⟩, 10) := ⟨⟨by decide +kernel, by decide +kernel⟩, List.mem_of_getElem? (i := 11) (by decide +kernel), List.mem_of_getElem? (i := 246) (by decide +kernel), List.mem_of_getElem? (i := 247) (by decide +kernel)⟩
theorem lw_p7 : lw_okq (⟨"HostNames", "keepLabel", "()V"⟩, 10) := ⟨⟨by decide +kernel, by decide +kernel⟩, List.mem_of_getElem? (i := 11) (by decide +kernel), List.mem_of_getElem? (i := 261) (by decide +kernel), List.mem_of_getElem? (i := 262) (by decide +kernel)⟩
theorem lw_p8 : lw_okq (⟨"HostNames$Packer", "readBasic", "(LHostNames$Row;ILHostNames$Row;)Z"⟩, 2) := ⟨⟨by decide +kernel, by decide +kernel⟩, List.mem_of_getElem? (i := 70) (by decide +kernel), List.mem_of_getElem? (i := 282) (by decide +kernel), List.mem_of_getElem? (i := 283) (by decide +kernel)⟩
theorem lw_p9 : lw_okq (⟨"HostNames$Packer", "readNumber", "(LHostNames$Row;J)J"⟩, 2) := ⟨⟨by decide +kernel, by decide +kernel⟩, List.mem_of_getElem? (i := 70) (by decide +kernel), List.mem_of_getElem? (i := 290) (by decide +kernel), List.mem_of_getElem? (i := 291) (by decide +kernel)⟩
theorem lw_p10 : lw_okq (⟨"HostNames$Packer", "threshold", "(I)I"⟩, 2) := ⟨⟨by decide +kernel, by decide +kernel⟩, List.mem_of_getElem? (i := 70) (by decide +kernel), List.mem_of_getElem? (i := 300) (by decide +kernel), List.mem_of_getElem? (i := 301) (by decide +kernel)⟩
theorem lw_p11 : lw_okq (⟨"HostNames$Packer", "adapt", "(IIZ)V"⟩, 2) := ⟨⟨by decide +kernel, by decide +kernel⟩, List.mem_of_getElem? (i := 70) (by decide +kernel), List.mem_of_getElem? (i := 311) (by decide +kernel), List.mem_of_getElem? (i := 312) (by decide +kernel)⟩
theorem lw_p12 : lw_okq (⟨"HostNames", "checkLabels", "(I)V"⟩, 10) := ⟨⟨by decide +kernel, by decide +kernel⟩, List.mem_of_getElem? (i := 11) (by decide +kernel), List.mem_of_getElem? (i := 324) (by decide +kernel), List.mem_of_getElem? (i := 325) (by decide +kernel)⟩
theorem lw_p13 : lw_okq (⟨"HostNames", "writeResult", "(ZZ)I"⟩, 10) := ⟨⟨by decide +kernel, by decide +kernel⟩, List.mem_of_getElem? (i := 11) (by decide +kernel), List.mem_of_getElem? (i := 409) (by decide +kernel), List.mem_of_getElem? (i := 410) (by decide +kernel)⟩
theorem lw_p14 : lw_okq (⟨"HostNames", "writeLabel", "(Z)V"⟩, 10) := ⟨⟨by decide +kernel, by decide +kernel⟩, List.mem_of_getElem? (i := 11) (by decide +kernel), List.mem_of_getElem? (i := 413) (by decide +kernel), List.mem_of_getElem? (i := 414) (by decide +kernel)⟩
theorem lw_p15 : lw_okq (⟨"HostNames$Packer", "writeNumber", "(ILHostNames$Row;)V"⟩, 2) := ⟨⟨by decide +kernel, by decide +kernel⟩, List.mem_of_getElem? (i := 70) (by decide +kernel), List.mem_of_getElem? (i := 432) (by decide +kernel), List.mem_of_getElem? (i := 433) (by decide +kernel)⟩
def lw_privs_1 : List (MethodName × Nat) := [(⟨"HostNames", "mapText", "(I)I"⟩, 10), (⟨"HostNames", "mapCode", "(IZZ)Z"⟩, 10), (⟨"HostNames", "mapOdd", "(I)V"⟩, 10), (⟨"HostNames$Composer", "takeApart", "(LHostNames$Row;)V"⟩, 1), (⟨"HostNames$Composer", "sortMarks", "()V"⟩, 1), (⟨"HostNames$Composer", "join", "(LHostNames$Row;)V"⟩, 1), (⟨"HostNames", "cutIntoLabels", "()V"⟩, 10), (⟨"HostNames", "keepLabel", "()V"⟩, 10), (⟨"HostNames$Packer", "readBasic", "(LHostNames$Row;ILHostNames$Row;)Z"⟩, 2), (⟨"HostNames$Packer", "readNumber", "(LHostNames$Row;J)J"⟩, 2), (⟨"HostNames$Packer", "threshold", "(I)I"⟩, 2), (⟨"HostNames$Packer", "adapt", "(IIZ)V"⟩, 2), (⟨"HostNames", "checkLabels", "(I)V"⟩, 10), (⟨"HostNames", "writeResult", "(ZZ)I"⟩, 10), (⟨"HostNames", "writeLabel", "(Z)V"⟩, 10), (⟨"HostNames$Packer", "writeNumber", "(ILHostNames$Row;)V"⟩, 2)]
theorem lw_r1 : ∀ q ∈ lw_privs_1, lw_okq q := List.forall_mem_cons.mpr ⟨lw_p0, List.forall_mem_cons.mpr ⟨lw_p1, List.forall_mem_cons.mpr ⟨lw_p2, List.forall_mem_cons.mpr ⟨lw_p3, List.forall_mem_cons.mpr ⟨lw_p4, List.forall_mem_cons.mpr ⟨lw_p5, List.forall_mem_cons.mpr ⟨lw_p6, List.forall_mem_cons.mpr ⟨lw_p7, List.forall_mem_cons.mpr ⟨lw_p8, List.forall_mem_cons.mpr ⟨lw_p9, List.forall_mem_cons.mpr ⟨lw_p10, List.forall_mem_cons.mpr ⟨lw_p11, List.forall_mem_cons.mpr ⟨lw_p12, List.forall_mem_cons.mpr ⟨lw_p13, List.forall_mem_cons.mpr ⟨lw_p14, List.forall_mem_cons.mpr ⟨lw_p15, fun _ h => absurd h List.not_mem_nil⟩⟩⟩⟩⟩⟩⟩⟩⟩⟩⟩⟩⟩⟩⟩⟩
theorem lw_p16 : lw_okq (⟨"HostNames", "isWrongLength", "(II)Z"⟩, 10) := ⟨⟨by decide +kernel, by decide +kernel⟩, List.mem_of_getElem? (i := 11) (by decide +kernel), List.mem_of_getElem? (i := 439) (by decide +kernel), List.mem_of_getElem? (i := 440) (by decide +kernel)⟩
theorem lw_p17 : lw_okq (⟨"HostNames", "isWholeWrongLength", "()Z"⟩, 10) := ⟨⟨by decide +kernel, by decide +kernel⟩, List.mem_of_getElem? (i := 11) (by decide +kernel), List.mem_of_getElem? (i := 443) (by decide +kernel), List.mem_of_getElem? (i := 444) (by decide +kernel)⟩
theorem lw_p18 : lw_okq (⟨"HostNamesModel", "mapText", "(I)Z"⟩, 17) := ⟨⟨by decide +kernel, by decide +kernel⟩, List.mem_of_getElem? (i := 479) (by decide +kernel), List.mem_of_getElem? (i := 559) (by decide +kernel), List.mem_of_getElem? (i := 560) (by decide +kernel)⟩
theorem lw_p19 : lw_okq (⟨"HostNamesModel", "add", "(I)V"⟩, 17) := ⟨⟨by decide +kernel, by decide +kernel⟩, List.mem_of_getElem? (i := 479) (by decide +kernel), List.mem_of_getElem? (i := 575) (by decide +kernel), List.mem_of_getElem? (i := 576) (by decide +kernel)⟩
theorem lw_p20 : lw_okq (⟨"HostNamesModel", "composeRow", "()V"⟩, 17) := ⟨⟨by decide +kernel, by decide +kernel⟩, List.mem_of_getElem? (i := 479) (by decide +kernel), List.mem_of_getElem? (i := 589) (by decide +kernel), List.mem_of_getElem? (i := 590) (by decide +kernel)⟩
theorem lw_p21 : lw_okq (⟨"HostNamesModel", "takeApart", "()V"⟩, 17) := ⟨⟨by decide +kernel, by decide +kernel⟩, List.mem_of_getElem? (i := 479) (by decide +kernel), List.mem_of_getElem? (i := 593) (by decide +kernel), List.mem_of_getElem? (i := 594) (by decide +kernel)⟩
theorem lw_p22 : lw_okq (⟨"HostNamesModel", "cut", "()V"⟩, 17) := ⟨⟨by decide +kernel, by decide +kernel⟩, List.mem_of_getElem? (i := 479) (by decide +kernel), List.mem_of_getElem? (i := 606) (by decide +kernel), List.mem_of_getElem? (i := 607) (by decide +kernel)⟩
theorem lw_p23 : lw_okq (⟨"HostNamesModel", "open", "(I)V"⟩, 17) := ⟨⟨by decide +kernel, by decide +kernel⟩, List.mem_of_getElem? (i := 479) (by decide +kernel), List.mem_of_getElem? (i := 610) (by decide +kernel), List.mem_of_getElem? (i := 611) (by decide +kernel)⟩
theorem lw_p24 : lw_okq (⟨"HostNamesModel", "fetch", "(I)V"⟩, 17) := ⟨⟨by decide +kernel, by decide +kernel⟩, List.mem_of_getElem? (i := 479) (by decide +kernel), List.mem_of_getElem? (i := 614) (by decide +kernel), List.mem_of_getElem? (i := 615) (by decide +kernel)⟩
theorem lw_p25 : lw_okq (⟨"HostNamesModel", "hasTag", "()Z"⟩, 17) := ⟨⟨by decide +kernel, by decide +kernel⟩, List.mem_of_getElem? (i := 479) (by decide +kernel), List.mem_of_getElem? (i := 618) (by decide +kernel), List.mem_of_getElem? (i := 619) (by decide +kernel)⟩
theorem lw_p26 : lw_okq (⟨"HostNamesModel", "unpackRow", "(I)Z"⟩, 17) := ⟨⟨by decide +kernel, by decide +kernel⟩, List.mem_of_getElem? (i := 479) (by decide +kernel), List.mem_of_getElem? (i := 622) (by decide +kernel), List.mem_of_getElem? (i := 623) (by decide +kernel)⟩
theorem lw_p27 : lw_okq (⟨"HostNamesModel", "threshold", "(I)I"⟩, 17) := ⟨⟨by decide +kernel, by decide +kernel⟩, List.mem_of_getElem? (i := 479) (by decide +kernel), List.mem_of_getElem? (i := 630) (by decide +kernel), List.mem_of_getElem? (i := 631) (by decide +kernel)⟩
theorem lw_p28 : lw_okq (⟨"HostNamesModel", "adapt", "(IIZ)V"⟩, 17) := ⟨⟨by decide +kernel, by decide +kernel⟩, List.mem_of_getElem? (i := 479) (by decide +kernel), List.mem_of_getElem? (i := 635) (by decide +kernel), List.mem_of_getElem? (i := 636) (by decide +kernel)⟩
theorem lw_p29 : lw_okq (⟨"HostNamesModel", "keep", "(I)V"⟩, 17) := ⟨⟨by decide +kernel, by decide +kernel⟩, List.mem_of_getElem? (i := 479) (by decide +kernel), List.mem_of_getElem? (i := 640) (by decide +kernel), List.mem_of_getElem? (i := 641) (by decide +kernel)⟩
theorem lw_p30 : lw_okq (⟨"HostNamesModel", "anyRight", "()Z"⟩, 17) := ⟨⟨by decide +kernel, by decide +kernel⟩, List.mem_of_getElem? (i := 479) (by decide +kernel), List.mem_of_getElem? (i := 644) (by decide +kernel), List.mem_of_getElem? (i := 645) (by decide +kernel)⟩
theorem lw_p31 : lw_okq (⟨"HostNamesModel", "codeOf", "(II)I"⟩, 17) := ⟨⟨by decide +kernel, by decide +kernel⟩, List.mem_of_getElem? (i := 479) (by decide +kernel), List.mem_of_getElem? (i := 648) (by decide +kernel), List.mem_of_getElem? (i := 649) (by decide +kernel)⟩
def lw_privs_2 : List (MethodName × Nat) := [(⟨"HostNames", "isWrongLength", "(II)Z"⟩, 10), (⟨"HostNames", "isWholeWrongLength", "()Z"⟩, 10), (⟨"HostNamesModel", "mapText", "(I)Z"⟩, 17), (⟨"HostNamesModel", "add", "(I)V"⟩, 17), (⟨"HostNamesModel", "composeRow", "()V"⟩, 17), (⟨"HostNamesModel", "takeApart", "()V"⟩, 17), (⟨"HostNamesModel", "cut", "()V"⟩, 17), (⟨"HostNamesModel", "open", "(I)V"⟩, 17), (⟨"HostNamesModel", "fetch", "(I)V"⟩, 17), (⟨"HostNamesModel", "hasTag", "()Z"⟩, 17), (⟨"HostNamesModel", "unpackRow", "(I)Z"⟩, 17), (⟨"HostNamesModel", "threshold", "(I)I"⟩, 17), (⟨"HostNamesModel", "adapt", "(IIZ)V"⟩, 17), (⟨"HostNamesModel", "keep", "(I)V"⟩, 17), (⟨"HostNamesModel", "anyRight", "()Z"⟩, 17), (⟨"HostNamesModel", "codeOf", "(II)I"⟩, 17)]
theorem lw_r2 : ∀ q ∈ lw_privs_2, lw_okq q := List.forall_mem_cons.mpr ⟨lw_p16, List.forall_mem_cons.mpr ⟨lw_p17, List.forall_mem_cons.mpr ⟨lw_p18, List.forall_mem_cons.mpr ⟨lw_p19, List.forall_mem_cons.mpr ⟨lw_p20, List.forall_mem_cons.mpr ⟨lw_p21, List.forall_mem_cons.mpr ⟨lw_p22, List.forall_mem_cons.mpr ⟨lw_p23, List.forall_mem_cons.mpr ⟨lw_p24, List.forall_mem_cons.mpr ⟨lw_p25, List.forall_mem_cons.mpr ⟨lw_p26, List.forall_mem_cons.mpr ⟨lw_p27, List.forall_mem_cons.mpr ⟨lw_p28, List.forall_mem_cons.mpr ⟨lw_p29, List.forall_mem_cons.mpr ⟨lw_p30, List.forall_mem_cons.mpr ⟨lw_p31, fun _ h => absurd h List.not_mem_nil⟩⟩⟩⟩⟩⟩⟩⟩⟩⟩⟩⟩⟩⟩⟩⟩
theorem lw_p32 : lw_okq (⟨"HostNamesModel", "check", "(IIZ)I"⟩, 17) := ⟨⟨by decide +kernel, by decide +kernel⟩, List.mem_of_getElem? (i := 479) (by decide +kernel), List.mem_of_getElem? (i := 655) (by decide +kernel), List.mem_of_getElem? (i := 656) (by decide +kernel)⟩
theorem lw_p33 : lw_okq (⟨"HostNamesModel", "composed", "(I)Z"⟩, 17) := ⟨⟨by decide +kernel, by decide +kernel⟩, List.mem_of_getElem? (i := 479) (by decide +kernel), List.mem_of_getElem? (i := 659) (by decide +kernel), List.mem_of_getElem? (i := 660) (by decide +kernel)⟩
theorem lw_p34 : lw_okq (⟨"HostNamesModel", "hyphenRules", "(I)I"⟩, 17) := ⟨⟨by decide +kernel, by decide +kernel⟩, List.mem_of_getElem? (i := 479) (by decide +kernel), List.mem_of_getElem? (i := 663) (by decide +kernel), List.mem_of_getElem? (i := 664) (by decide +kernel)⟩
theorem lw_p35 : lw_okq (⟨"HostNamesModel", "allGood", "(II)Z"⟩, 17) := ⟨⟨by decide +kernel, by decide +kernel⟩, List.mem_of_getElem? (i := 479) (by decide +kernel), List.mem_of_getElem? (i := 667) (by decide +kernel), List.mem_of_getElem? (i := 668) (by decide +kernel)⟩
theorem lw_p36 : lw_okq (⟨"HostNamesModel", "joinersRight", "(I)Z"⟩, 17) := ⟨⟨by decide +kernel, by decide +kernel⟩, List.mem_of_getElem? (i := 479) (by decide +kernel), List.mem_of_getElem? (i := 671) (by decide +kernel), List.mem_of_getElem? (i := 672) (by decide +kernel)⟩
theorem lw_p37 : lw_okq (⟨"HostNamesModel", "across", "(III)I"⟩, 17) := ⟨⟨by decide +kernel, by decide +kernel⟩, List.mem_of_getElem? (i := 479) (by decide +kernel), List.mem_of_getElem? (i := 675) (by decide +kernel), List.mem_of_getElem? (i := 676) (by decide +kernel)⟩
theorem lw_p38 : lw_okq (⟨"HostNamesModel", "directed", "(I)Z"⟩, 17) := ⟨⟨by decide +kernel, by decide +kernel⟩, List.mem_of_getElem? (i := 479) (by decide +kernel), List.mem_of_getElem? (i := 682) (by decide +kernel), List.mem_of_getElem? (i := 683) (by decide +kernel)⟩
theorem lw_p39 : lw_okq (⟨"HostNamesModel", "give", "(IZ)V"⟩, 17) := ⟨⟨by decide +kernel, by decide +kernel⟩, List.mem_of_getElem? (i := 479) (by decide +kernel), List.mem_of_getElem? (i := 686) (by decide +kernel), List.mem_of_getElem? (i := 687) (by decide +kernel)⟩
theorem lw_p40 : lw_okq (⟨"HostNamesModel", "out", "(I)V"⟩, 17) := ⟨⟨by decide +kernel, by decide +kernel⟩, List.mem_of_getElem? (i := 479) (by decide +kernel), List.mem_of_getElem? (i := 690) (by decide +kernel), List.mem_of_getElem? (i := 691) (by decide +kernel)⟩
theorem lw_p41 : lw_okq (⟨"HostNamesModel", "packRow", "()V"⟩, 17) := ⟨⟨by decide +kernel, by decide +kernel⟩, List.mem_of_getElem? (i := 479) (by decide +kernel), List.mem_of_getElem? (i := 694) (by decide +kernel), List.mem_of_getElem? (i := 695) (by decide +kernel)⟩
theorem lw_p42 : lw_okq (⟨"HostNamesModel", "leastLeft", "()I"⟩, 17) := ⟨⟨by decide +kernel, by decide +kernel⟩, List.mem_of_getElem? (i := 479) (by decide +kernel), List.mem_of_getElem? (i := 698) (by decide +kernel), List.mem_of_getElem? (i := 699) (by decide +kernel)⟩
theorem lw_p43 : lw_okq (⟨"HostNamesModel", "outNumber", "(I)V"⟩, 17) := ⟨⟨by decide +kernel, by decide +kernel⟩, List.mem_of_getElem? (i := 479) (by decide +kernel), List.mem_of_getElem? (i := 702) (by decide +kernel), List.mem_of_getElem? (i := 703) (by decide +kernel)⟩
theorem lw_p44 : lw_okq (⟨"HostNamesModel", "outDigit", "(I)V"⟩, 17) := ⟨⟨by decide +kernel, by decide +kernel⟩, List.mem_of_getElem? (i := 479) (by decide +kernel), List.mem_of_getElem? (i := 706) (by decide +kernel), List.mem_of_getElem? (i := 707) (by decide +kernel)⟩
theorem lw_p45 : lw_okq (⟨"HostNamesModel", "takeText", "()V"⟩, 17) := ⟨⟨by decide +kernel, by decide +kernel⟩, List.mem_of_getElem? (i := 479) (by decide +kernel), List.mem_of_getElem? (i := 730) (by decide +kernel), List.mem_of_getElem? (i := 731) (by decide +kernel)⟩
theorem lw_p46 : lw_okq (⟨"HostNamesModel", "giveRow", "()V"⟩, 17) := ⟨⟨by decide +kernel, by decide +kernel⟩, List.mem_of_getElem? (i := 479) (by decide +kernel), List.mem_of_getElem? (i := 738) (by decide +kernel), List.mem_of_getElem? (i := 739) (by decide +kernel)⟩
def lw_privs_3 : List (MethodName × Nat) := [(⟨"HostNamesModel", "check", "(IIZ)I"⟩, 17), (⟨"HostNamesModel", "composed", "(I)Z"⟩, 17), (⟨"HostNamesModel", "hyphenRules", "(I)I"⟩, 17), (⟨"HostNamesModel", "allGood", "(II)Z"⟩, 17), (⟨"HostNamesModel", "joinersRight", "(I)Z"⟩, 17), (⟨"HostNamesModel", "across", "(III)I"⟩, 17), (⟨"HostNamesModel", "directed", "(I)Z"⟩, 17), (⟨"HostNamesModel", "give", "(IZ)V"⟩, 17), (⟨"HostNamesModel", "out", "(I)V"⟩, 17), (⟨"HostNamesModel", "packRow", "()V"⟩, 17), (⟨"HostNamesModel", "leastLeft", "()I"⟩, 17), (⟨"HostNamesModel", "outNumber", "(I)V"⟩, 17), (⟨"HostNamesModel", "outDigit", "(I)V"⟩, 17), (⟨"HostNamesModel", "takeText", "()V"⟩, 17), (⟨"HostNamesModel", "giveRow", "()V"⟩, 17)]
theorem lw_r3 : ∀ q ∈ lw_privs_3, lw_okq q := List.forall_mem_cons.mpr ⟨lw_p32, List.forall_mem_cons.mpr ⟨lw_p33, List.forall_mem_cons.mpr ⟨lw_p34, List.forall_mem_cons.mpr ⟨lw_p35, List.forall_mem_cons.mpr ⟨lw_p36, List.forall_mem_cons.mpr ⟨lw_p37, List.forall_mem_cons.mpr ⟨lw_p38, List.forall_mem_cons.mpr ⟨lw_p39, List.forall_mem_cons.mpr ⟨lw_p40, List.forall_mem_cons.mpr ⟨lw_p41, List.forall_mem_cons.mpr ⟨lw_p42, List.forall_mem_cons.mpr ⟨lw_p43, List.forall_mem_cons.mpr ⟨lw_p44, List.forall_mem_cons.mpr ⟨lw_p45, List.forall_mem_cons.mpr ⟨lw_p46, fun _ h => absurd h List.not_mem_nil⟩⟩⟩⟩⟩⟩⟩⟩⟩⟩⟩⟩⟩⟩⟩
def lw_privs : List (MethodName × Nat) := lw_privs_1 ++ (lw_privs_2 ++ (lw_privs_3))
def lw_tbl : List Cond := k2_sels lw_privs ++ tables_1
theorem lw_privs_ok : ∀ q ∈ lw_privs, lw_okq q := by
  show ∀ q ∈ lw_privs_1 ++ (lw_privs_2 ++ (lw_privs_3)), lw_okq q
  exact List.forall_mem_append.mpr ⟨lw_r1, List.forall_mem_append.mpr ⟨lw_r2, lw_r3⟩⟩
end
section
def R_Host : String := "HostNames"
def R_Mod : String := "HostNamesModel"
def R_Checker : String := "HostNames$Checker"
def R_Codes : String := "HostNames$Codes"
def R_Composer : String := "HostNames$Composer"
def R_Labels : String := "HostNames$Labels"
def R_Packer : String := "HostNames$Packer"
def R_Row : String := "HostNames$Row"
def R_Law : String := "HostNamesLaw"
def R_Math : String := "java/lang/Math"
def F_Row : u_T := fun k => match k with
  | 0 => ("HostNames$Row", "codes", "[I", true)
  | _ => ("HostNames$Row", "size", "I", false)
def t_Row : Nat → FieldType := fun k => match k with
  | 0 => .array .int
  | _ => .int
theorem n_Row : ∀ a, a < 2 → ∀ b, b < 2 → a ≠ b → (F_Row a).2.1 ≠ (F_Row b).2.1 := by decide +kernel
theorem t_Row_ok : ∀ k, k < 2 → parseFieldDescriptor (F_Row k).2.2.1 = some (t_Row k) := by decide +kernel
def F_Labels : u_T := fun k => match k with
  | 0 => ("HostNames$Labels", "codes", "LHostNames$Row;", true)
  | 1 => ("HostNames$Labels", "ends", "[I", true)
  | 2 => ("HostNames$Labels", "rules", "[I", true)
  | 3 => ("HostNames$Labels", "tagged", "[Z", true)
  | _ => ("HostNames$Labels", "count", "I", false)
def t_Labels : Nat → FieldType := fun k => match k with
  | 0 => .object "HostNames$Row"
  | 1 => .array .int
  | 2 => .array .int
  | 3 => .array .boolean
  | _ => .int
theorem n_Labels : ∀ a, a < 5 → ∀ b, b < 5 → a ≠ b → (F_Labels a).2.1 ≠ (F_Labels b).2.1 := by decide +kernel
theorem t_Labels_ok : ∀ k, k < 5 → parseFieldDescriptor (F_Labels k).2.2.1 = some (t_Labels k) := by decide +kernel
def F_Composer : u_T := fun k => match k with
  | _ => ("HostNames$Composer", "parts", "LHostNames$Row;", true)
def t_Composer : Nat → FieldType := fun k => match k with
  | _ => .object "HostNames$Row"
theorem n_Composer : ∀ a, a < 1 → ∀ b, b < 1 → a ≠ b → (F_Composer a).2.1 ≠ (F_Composer b).2.1 := by decide +kernel
theorem t_Composer_ok : ∀ k, k < 1 → parseFieldDescriptor (F_Composer k).2.2.1 = some (t_Composer k) := by decide +kernel
def F_Packer : u_T := fun k => match k with
  | 0 => ("HostNames$Packer", "bias", "I", false)
  | _ => ("HostNames$Packer", "next", "I", false)
def t_Packer : Nat → FieldType := fun k => match k with
  | 0 => .int
  | _ => .int
theorem n_Packer : ∀ a, a < 2 → ∀ b, b < 2 → a ≠ b → (F_Packer a).2.1 ≠ (F_Packer b).2.1 := by decide +kernel
theorem t_Packer_ok : ∀ k, k < 2 → parseFieldDescriptor (F_Packer k).2.2.1 = some (t_Packer k) := by decide +kernel
def F_Checker : u_T := fun k => match k with
  | 0 => ("HostNames$Checker", "composer", "LHostNames$Composer;", true)
  | _ => ("HostNames$Checker", "form", "LHostNames$Row;", true)
def t_Checker : Nat → FieldType := fun k => match k with
  | 0 => .object "HostNames$Composer"
  | _ => .object "HostNames$Row"
theorem n_Checker : ∀ a, a < 2 → ∀ b, b < 2 → a ≠ b → (F_Checker a).2.1 ≠ (F_Checker b).2.1 := by decide +kernel
theorem t_Checker_ok : ∀ k, k < 2 → parseFieldDescriptor (F_Checker k).2.2.1 = some (t_Checker k) := by decide +kernel
def F_Host : u_T := fun k => match k with
  | 0 => ("HostNames", "text", "LHostNames$Row;", true)
  | 1 => ("HostNames", "result", "LHostNames$Row;", true)
  | 2 => ("HostNames", "mapped", "LHostNames$Row;", true)
  | 3 => ("HostNames", "composed", "LHostNames$Row;", true)
  | 4 => ("HostNames", "label", "LHostNames$Row;", true)
  | 5 => ("HostNames", "unpacked", "LHostNames$Row;", true)
  | 6 => ("HostNames", "found", "LHostNames$Labels;", true)
  | 7 => ("HostNames", "composer", "LHostNames$Composer;", true)
  | 8 => ("HostNames", "packer", "LHostNames$Packer;", true)
  | _ => ("HostNames", "checker", "LHostNames$Checker;", true)
def t_Host : Nat → FieldType := fun k => match k with
  | 0 => .object "HostNames$Row"
  | 1 => .object "HostNames$Row"
  | 2 => .object "HostNames$Row"
  | 3 => .object "HostNames$Row"
  | 4 => .object "HostNames$Row"
  | 5 => .object "HostNames$Row"
  | 6 => .object "HostNames$Labels"
  | 7 => .object "HostNames$Composer"
  | 8 => .object "HostNames$Packer"
  | _ => .object "HostNames$Checker"
theorem n_Host : ∀ a, a < 10 → ∀ b, b < 10 → a ≠ b → (F_Host a).2.1 ≠ (F_Host b).2.1 := by decide +kernel
theorem t_Host_ok : ∀ k, k < 10 → parseFieldDescriptor (F_Host k).2.2.1 = some (t_Host k) := by decide +kernel
def F_Mod : u_T := fun k => match k with
  | 0 => ("HostNamesModel", "textSize", "I", false)
  | 1 => ("HostNamesModel", "text", "[I", false)
  | 2 => ("HostNamesModel", "size", "I", false)
  | 3 => ("HostNamesModel", "result", "[I", false)
  | 4 => ("HostNamesModel", "rowSize", "I", false)
  | 5 => ("HostNamesModel", "row", "[I", false)
  | 6 => ("HostNamesModel", "other", "[I", false)
  | 7 => ("HostNamesModel", "count", "I", false)
  | 8 => ("HostNamesModel", "starts", "[I", false)
  | 9 => ("HostNamesModel", "sizes", "[I", false)
  | 10 => ("HostNamesModel", "rules", "[I", false)
  | 11 => ("HostNamesModel", "tagged", "[Z", false)
  | 12 => ("HostNamesModel", "poolSize", "I", false)
  | 13 => ("HostNamesModel", "pool", "[I", false)
  | 14 => ("HostNamesModel", "whole", "I", false)
  | 15 => ("HostNamesModel", "placed", "[Z", false)
  | _ => ("HostNamesModel", "bias", "I", false)
def t_Mod : Nat → FieldType := fun k => match k with
  | 0 => .int
  | 1 => .array .int
  | 2 => .int
  | 3 => .array .int
  | 4 => .int
  | 5 => .array .int
  | 6 => .array .int
  | 7 => .int
  | 8 => .array .int
  | 9 => .array .int
  | 10 => .array .int
  | 11 => .array .boolean
  | 12 => .int
  | 13 => .array .int
  | 14 => .int
  | 15 => .array .boolean
  | _ => .int
theorem n_Mod : ∀ a, a < 17 → ∀ b, b < 17 → a ≠ b → (F_Mod a).2.1 ≠ (F_Mod b).2.1 := by decide +kernel
theorem t_Mod_ok : ∀ k, k < 17 → parseFieldDescriptor (F_Mod k).2.2.1 = some (t_Mod k) := by decide +kernel
abbrev classes : List vw_C := [(R_Row, F_Row, 2), (R_Labels, F_Labels, 5), (R_Composer, F_Composer, 1), (R_Packer, F_Packer, 2), (R_Checker, F_Checker, 2), (R_Host, F_Host, 10), (R_Mod, F_Mod, 17)]
abbrev b_Host_init : ByteArray := prog_1_method_1_code
def y_Host_init : MethodName := ⟨R_Host, "<init>", "()V"⟩
abbrev b_Host_put : ByteArray := prog_1_method_2_code
def y_Host_put : MethodName := ⟨R_Host, "put", "(I)Z"⟩
abbrev b_Host_type : ByteArray := prog_1_method_3_code
def y_Host_type : MethodName := ⟨R_Host, "type", "(JI)Z"⟩
abbrev b_Host_clear : ByteArray := prog_1_method_4_code
def y_Host_clear : MethodName := ⟨R_Host, "clear", "()I"⟩
abbrev b_Host_process : ByteArray := prog_1_method_5_code
def y_Host_process : MethodName := ⟨R_Host, "process", "(IZ)I"⟩
abbrev b_Host_length : ByteArray := prog_1_method_6_code
def y_Host_length : MethodName := ⟨R_Host, "length", "()I"⟩
abbrev b_Host_at : ByteArray := prog_1_method_7_code
def y_Host_at : MethodName := ⟨R_Host, "at", "(I)I"⟩
abbrev b_Host_labels : ByteArray := prog_1_method_8_code
def y_Host_labels : MethodName := ⟨R_Host, "labels", "()I"⟩
abbrev b_Host_broken : ByteArray := prog_1_method_9_code
def y_Host_broken : MethodName := ⟨R_Host, "broken", "(I)I"⟩
abbrev b_Host_pack : ByteArray := prog_1_method_10_code
def y_Host_pack : MethodName := ⟨R_Host, "pack", "()I"⟩
abbrev b_Host_unpack : ByteArray := prog_1_method_11_code
def y_Host_unpack : MethodName := ⟨R_Host, "unpack", "()Z"⟩
abbrev b_Host_compose : ByteArray := prog_1_method_12_code
def y_Host_compose : MethodName := ⟨R_Host, "compose", "()I"⟩
abbrev b_Host_bit : ByteArray := prog_1_method_13_code
def y_Host_bit : MethodName := ⟨R_Host, "bit", "(I)I"⟩
abbrev b_Host_mapText : ByteArray := prog_1_method_14_code
def y_Host_mapText : MethodName := ⟨R_Host, "mapText", "(I)I"⟩
abbrev b_Host_mapCode : ByteArray := prog_1_method_15_code
def y_Host_mapCode : MethodName := ⟨R_Host, "mapCode", "(IZZ)Z"⟩
abbrev b_Host_mapOdd : ByteArray := prog_1_method_16_code
def y_Host_mapOdd : MethodName := ⟨R_Host, "mapOdd", "(I)V"⟩
abbrev b_Host_cutIntoLabels : ByteArray := prog_1_method_17_code
def y_Host_cutIntoLabels : MethodName := ⟨R_Host, "cutIntoLabels", "()V"⟩
abbrev b_Host_keepLabel : ByteArray := prog_1_method_18_code
def y_Host_keepLabel : MethodName := ⟨R_Host, "keepLabel", "()V"⟩
abbrev b_Host_checkLabels : ByteArray := prog_1_method_19_code
def y_Host_checkLabels : MethodName := ⟨R_Host, "checkLabels", "(I)V"⟩
abbrev b_Host_writeResult : ByteArray := prog_1_method_20_code
def y_Host_writeResult : MethodName := ⟨R_Host, "writeResult", "(ZZ)I"⟩
abbrev b_Host_writeLabel : ByteArray := prog_1_method_21_code
def y_Host_writeLabel : MethodName := ⟨R_Host, "writeLabel", "(Z)V"⟩
abbrev b_Host_isWrongLength : ByteArray := prog_1_method_22_code
def y_Host_isWrongLength : MethodName := ⟨R_Host, "isWrongLength", "(II)Z"⟩
abbrev b_Host_isWholeWrongLength : ByteArray := prog_1_method_23_code
def y_Host_isWholeWrongLength : MethodName := ⟨R_Host, "isWholeWrongLength", "()Z"⟩
abbrev b_Mod_init : ByteArray := prog_9_method_1_code
def y_Mod_init : MethodName := ⟨R_Mod, "<init>", "()V"⟩
abbrev b_Mod_within : ByteArray := prog_9_method_2_code
def y_Mod_within : MethodName := ⟨R_Mod, "within", "(III)Z"⟩
abbrev b_Mod_isGood : ByteArray := prog_9_method_3_code
def y_Mod_isGood : MethodName := ⟨R_Mod, "isGood", "(I)Z"⟩
abbrev b_Mod_isPlain : ByteArray := prog_9_method_4_code
def y_Mod_isPlain : MethodName := ⟨R_Mod, "isPlain", "(I)Z"⟩
abbrev b_Mod_image : ByteArray := prog_9_method_5_code
def y_Mod_image : MethodName := ⟨R_Mod, "image", "(I)I"⟩
abbrev b_Mod_isOdd : ByteArray := prog_9_method_6_code
def y_Mod_isOdd : MethodName := ⟨R_Mod, "isOdd", "(I)Z"⟩
abbrev b_Mod_order : ByteArray := prog_9_method_7_code
def y_Mod_order : MethodName := ⟨R_Mod, "order", "(I)I"⟩
abbrev b_Mod_direction : ByteArray := prog_9_method_8_code
def y_Mod_direction : MethodName := ⟨R_Mod, "direction", "(I)I"⟩
abbrev b_Mod_pair : ByteArray := prog_9_method_9_code
def y_Mod_pair : MethodName := ⟨R_Mod, "pair", "(II)I"⟩
abbrev b_Mod_letterOf : ByteArray := prog_9_method_10_code
def y_Mod_letterOf : MethodName := ⟨R_Mod, "letterOf", "(I)I"⟩
abbrev b_Mod_markOf : ByteArray := prog_9_method_11_code
def y_Mod_markOf : MethodName := ⟨R_Mod, "markOf", "(I)I"⟩
abbrev b_Mod_takeApart : ByteArray := prog_9_method_12_code
def y_Mod_takeApart : MethodName := ⟨R_Mod, "takeApart", "()V"⟩
abbrev b_Mod_composeRow : ByteArray := prog_9_method_13_code
def y_Mod_composeRow : MethodName := ⟨R_Mod, "composeRow", "()V"⟩
abbrev b_Mod_adapt : ByteArray := prog_9_method_14_code
def y_Mod_adapt : MethodName := ⟨R_Mod, "adapt", "(IIZ)V"⟩
abbrev b_Mod_threshold : ByteArray := prog_9_method_15_code
def y_Mod_threshold : MethodName := ⟨R_Mod, "threshold", "(I)I"⟩
abbrev b_Mod_out : ByteArray := prog_9_method_16_code
def y_Mod_out : MethodName := ⟨R_Mod, "out", "(I)V"⟩
abbrev b_Mod_outDigit : ByteArray := prog_9_method_17_code
def y_Mod_outDigit : MethodName := ⟨R_Mod, "outDigit", "(I)V"⟩
abbrev b_Mod_outNumber : ByteArray := prog_9_method_18_code
def y_Mod_outNumber : MethodName := ⟨R_Mod, "outNumber", "(I)V"⟩
abbrev b_Mod_leastLeft : ByteArray := prog_9_method_19_code
def y_Mod_leastLeft : MethodName := ⟨R_Mod, "leastLeft", "()I"⟩
abbrev b_Mod_packRow : ByteArray := prog_9_method_20_code
def y_Mod_packRow : MethodName := ⟨R_Mod, "packRow", "()V"⟩
abbrev b_Mod_digit : ByteArray := prog_9_method_21_code
def y_Mod_digit : MethodName := ⟨R_Mod, "digit", "(I)I"⟩
abbrev b_Mod_unpackRow : ByteArray := prog_9_method_22_code
def y_Mod_unpackRow : MethodName := ⟨R_Mod, "unpackRow", "(I)Z"⟩
abbrev b_Mod_put : ByteArray := prog_9_method_23_code
def y_Mod_put : MethodName := ⟨R_Mod, "put", "(I)Z"⟩
abbrev b_Mod_type : ByteArray := prog_9_method_24_code
def y_Mod_type : MethodName := ⟨R_Mod, "type", "(JI)Z"⟩
abbrev b_Mod_clear : ByteArray := prog_9_method_25_code
def y_Mod_clear : MethodName := ⟨R_Mod, "clear", "()I"⟩
abbrev b_Mod_takeText : ByteArray := prog_9_method_26_code
def y_Mod_takeText : MethodName := ⟨R_Mod, "takeText", "()V"⟩
abbrev b_Mod_giveRow : ByteArray := prog_9_method_27_code
def y_Mod_giveRow : MethodName := ⟨R_Mod, "giveRow", "()V"⟩
abbrev b_Mod_on : ByteArray := prog_9_method_28_code
def y_Mod_on : MethodName := ⟨R_Mod, "on", "(II)Z"⟩
abbrev b_Mod_add : ByteArray := prog_9_method_29_code
def y_Mod_add : MethodName := ⟨R_Mod, "add", "(I)V"⟩
abbrev b_Mod_mapText : ByteArray := prog_9_method_30_code
def y_Mod_mapText : MethodName := ⟨R_Mod, "mapText", "(I)Z"⟩
abbrev b_Mod_hasTag : ByteArray := prog_9_method_31_code
def y_Mod_hasTag : MethodName := ⟨R_Mod, "hasTag", "()Z"⟩
abbrev b_Mod_keep : ByteArray := prog_9_method_32_code
def y_Mod_keep : MethodName := ⟨R_Mod, "keep", "(I)V"⟩
abbrev b_Mod_fetch : ByteArray := prog_9_method_33_code
def y_Mod_fetch : MethodName := ⟨R_Mod, "fetch", "(I)V"⟩
abbrev b_Mod_cut : ByteArray := prog_9_method_34_code
def y_Mod_cut : MethodName := ⟨R_Mod, "cut", "()V"⟩
abbrev b_Mod_open : ByteArray := prog_9_method_35_code
def y_Mod_open : MethodName := ⟨R_Mod, "open", "(I)V"⟩
abbrev b_Mod_codeOf : ByteArray := prog_9_method_36_code
def y_Mod_codeOf : MethodName := ⟨R_Mod, "codeOf", "(II)I"⟩
abbrev b_Mod_composed : ByteArray := prog_9_method_37_code
def y_Mod_composed : MethodName := ⟨R_Mod, "composed", "(I)Z"⟩
abbrev b_Mod_allGood : ByteArray := prog_9_method_38_code
def y_Mod_allGood : MethodName := ⟨R_Mod, "allGood", "(II)Z"⟩
abbrev b_Mod_joins : ByteArray := prog_9_method_39_code
def y_Mod_joins : MethodName := ⟨R_Mod, "joins", "(I)I"⟩
abbrev b_Mod_across : ByteArray := prog_9_method_40_code
def y_Mod_across : MethodName := ⟨R_Mod, "across", "(III)I"⟩
abbrev b_Mod_joinersRight : ByteArray := prog_9_method_41_code
def y_Mod_joinersRight : MethodName := ⟨R_Mod, "joinersRight", "(I)Z"⟩
abbrev b_Mod_directed : ByteArray := prog_9_method_42_code
def y_Mod_directed : MethodName := ⟨R_Mod, "directed", "(I)Z"⟩
abbrev b_Mod_anyRight : ByteArray := prog_9_method_43_code
def y_Mod_anyRight : MethodName := ⟨R_Mod, "anyRight", "()Z"⟩
abbrev b_Mod_hyphenRules : ByteArray := prog_9_method_44_code
def y_Mod_hyphenRules : MethodName := ⟨R_Mod, "hyphenRules", "(I)I"⟩
abbrev b_Mod_check : ByteArray := prog_9_method_45_code
def y_Mod_check : MethodName := ⟨R_Mod, "check", "(IIZ)I"⟩
abbrev b_Mod_give : ByteArray := prog_9_method_46_code
def y_Mod_give : MethodName := ⟨R_Mod, "give", "(IZ)V"⟩
abbrev b_Mod_process : ByteArray := prog_9_method_47_code
def y_Mod_process : MethodName := ⟨R_Mod, "process", "(IZ)I"⟩
abbrev b_Mod_length : ByteArray := prog_9_method_48_code
def y_Mod_length : MethodName := ⟨R_Mod, "length", "()I"⟩
abbrev b_Mod_at : ByteArray := prog_9_method_49_code
def y_Mod_at : MethodName := ⟨R_Mod, "at", "(I)I"⟩
abbrev b_Mod_labels : ByteArray := prog_9_method_50_code
def y_Mod_labels : MethodName := ⟨R_Mod, "labels", "()I"⟩
abbrev b_Mod_broken : ByteArray := prog_9_method_51_code
def y_Mod_broken : MethodName := ⟨R_Mod, "broken", "(I)I"⟩
abbrev b_Mod_pack : ByteArray := prog_9_method_52_code
def y_Mod_pack : MethodName := ⟨R_Mod, "pack", "()I"⟩
abbrev b_Mod_unpack : ByteArray := prog_9_method_53_code
def y_Mod_unpack : MethodName := ⟨R_Mod, "unpack", "()Z"⟩
abbrev b_Mod_compose : ByteArray := prog_9_method_54_code
def y_Mod_compose : MethodName := ⟨R_Mod, "compose", "()I"⟩
abbrev b_Checker_init : ByteArray := prog_2_method_1_code
def y_Checker_init : MethodName := ⟨R_Checker, "<init>", "(LHostNames$Composer;)V"⟩
abbrev b_Checker_isTagged : ByteArray := prog_2_method_2_code
def y_Checker_isTagged : MethodName := ⟨R_Checker, "isTagged", "(LHostNames$Row;)Z"⟩
abbrev b_Checker_addTag : ByteArray := prog_2_method_3_code
def y_Checker_addTag : MethodName := ⟨R_Checker, "addTag", "(LHostNames$Row;)V"⟩
abbrev b_Checker_brokenRules : ByteArray := prog_2_method_4_code
def y_Checker_brokenRules : MethodName := ⟨R_Checker, "brokenRules", "(LHostNames$Row;IZ)I"⟩
abbrev b_Checker_brokenHyphenRules : ByteArray := prog_2_method_5_code
def y_Checker_brokenHyphenRules : MethodName := ⟨R_Checker, "brokenHyphenRules", "(LHostNames$Row;)I"⟩
abbrev b_Checker_isAllGood : ByteArray := prog_2_method_6_code
def y_Checker_isAllGood : MethodName := ⟨R_Checker, "isAllGood", "(LHostNames$Row;ZZ)Z"⟩
abbrev b_Checker_areJoinersRight : ByteArray := prog_2_method_7_code
def y_Checker_areJoinersRight : MethodName := ⟨R_Checker, "areJoinersRight", "(LHostNames$Row;)Z"⟩
abbrev b_Checker_isBetweenJoining : ByteArray := prog_2_method_8_code
def y_Checker_isBetweenJoining : MethodName := ⟨R_Checker, "isBetweenJoining", "(LHostNames$Row;I)Z"⟩
abbrev b_Checker_joiningBeyond : ByteArray := prog_2_method_9_code
def y_Checker_joiningBeyond : MethodName := ⟨R_Checker, "joiningBeyond", "(LHostNames$Row;II)I"⟩
abbrev b_Checker_isDirectionRight : ByteArray := prog_2_method_10_code
def y_Checker_isDirectionRight : MethodName := ⟨R_Checker, "isDirectionRight", "(LHostNames$Row;)Z"⟩
abbrev b_Codes_isWithin : ByteArray := prog_3_method_2_code
def y_Codes_isWithin : MethodName := ⟨R_Codes, "isWithin", "(III)Z"⟩
abbrev b_Codes_isCapital : ByteArray := prog_3_method_3_code
def y_Codes_isCapital : MethodName := ⟨R_Codes, "isCapital", "(I)Z"⟩
abbrev b_Codes_isOdd : ByteArray := prog_3_method_4_code
def y_Codes_isOdd : MethodName := ⟨R_Codes, "isOdd", "(I)Z"⟩
abbrev b_Codes_isInGoodRanges : ByteArray := prog_3_method_5_code
def y_Codes_isInGoodRanges : MethodName := ⟨R_Codes, "isInGoodRanges", "(I)Z"⟩
abbrev b_Codes_isPlain : ByteArray := prog_3_method_6_code
def y_Codes_isPlain : MethodName := ⟨R_Codes, "isPlain", "(I)Z"⟩
abbrev b_Codes_isGood : ByteArray := prog_3_method_7_code
def y_Codes_isGood : MethodName := ⟨R_Codes, "isGood", "(IZZ)Z"⟩
abbrev b_Codes_mappedTo : ByteArray := prog_3_method_8_code
def y_Codes_mappedTo : MethodName := ⟨R_Codes, "mappedTo", "(I)I"⟩
abbrev b_Codes_order : ByteArray := prog_3_method_9_code
def y_Codes_order : MethodName := ⟨R_Codes, "order", "(I)I"⟩
abbrev b_Codes_isMark : ByteArray := prog_3_method_10_code
def y_Codes_isMark : MethodName := ⟨R_Codes, "isMark", "(I)Z"⟩
abbrev b_Codes_direction : ByteArray := prog_3_method_11_code
def y_Codes_direction : MethodName := ⟨R_Codes, "direction", "(I)I"⟩
abbrev b_Codes_asciiDirection : ByteArray := prog_3_method_12_code
def y_Codes_asciiDirection : MethodName := ⟨R_Codes, "asciiDirection", "(I)I"⟩
abbrev b_Codes_hasRightToLeft : ByteArray := prog_3_method_13_code
def y_Codes_hasRightToLeft : MethodName := ⟨R_Codes, "hasRightToLeft", "(LHostNames$Row;)Z"⟩
abbrev b_Codes_joining : ByteArray := prog_3_method_14_code
def y_Codes_joining : MethodName := ⟨R_Codes, "joining", "(I)I"⟩
abbrev b_Composer_init : ByteArray := prog_4_method_1_code
def y_Composer_init : MethodName := ⟨R_Composer, "<init>", "()V"⟩
abbrev b_Composer_form : ByteArray := prog_4_method_2_code
def y_Composer_form : MethodName := ⟨R_Composer, "form", "(LHostNames$Row;LHostNames$Row;)V"⟩
abbrev b_Composer_takeApart : ByteArray := prog_4_method_3_code
def y_Composer_takeApart : MethodName := ⟨R_Composer, "takeApart", "(LHostNames$Row;)V"⟩
abbrev b_Composer_pairOfCode : ByteArray := prog_4_method_4_code
def y_Composer_pairOfCode : MethodName := ⟨R_Composer, "pairOfCode", "(I)I"⟩
abbrev b_Composer_sortMarks : ByteArray := prog_4_method_5_code
def y_Composer_sortMarks : MethodName := ⟨R_Composer, "sortMarks", "()V"⟩
abbrev b_Composer_join : ByteArray := prog_4_method_6_code
def y_Composer_join : MethodName := ⟨R_Composer, "join", "(LHostNames$Row;)V"⟩
abbrev b_Composer_pairOfParts : ByteArray := prog_4_method_7_code
def y_Composer_pairOfParts : MethodName := ⟨R_Composer, "pairOfParts", "(II)I"⟩
abbrev b_Labels_init : ByteArray := prog_5_method_1_code
def y_Labels_init : MethodName := ⟨R_Labels, "<init>", "()V"⟩
abbrev b_Labels_empty : ByteArray := prog_5_method_2_code
def y_Labels_empty : MethodName := ⟨R_Labels, "empty", "()V"⟩
abbrev b_Labels_add : ByteArray := prog_5_method_3_code
def y_Labels_add : MethodName := ⟨R_Labels, "add", "(LHostNames$Row;ZI)V"⟩
abbrev b_Labels_count : ByteArray := prog_5_method_4_code
def y_Labels_count : MethodName := ⟨R_Labels, "count", "()I"⟩
abbrev b_Labels_codes : ByteArray := prog_5_method_5_code
def y_Labels_codes : MethodName := ⟨R_Labels, "codes", "()LHostNames$Row;"⟩
abbrev b_Labels_has : ByteArray := prog_5_method_6_code
def y_Labels_has : MethodName := ⟨R_Labels, "has", "(I)Z"⟩
abbrev b_Labels_wasTagged : ByteArray := prog_5_method_7_code
def y_Labels_wasTagged : MethodName := ⟨R_Labels, "wasTagged", "(I)Z"⟩
abbrev b_Labels_rules : ByteArray := prog_5_method_8_code
def y_Labels_rules : MethodName := ⟨R_Labels, "rules", "(I)I"⟩
abbrev b_Labels_addRules : ByteArray := prog_5_method_9_code
def y_Labels_addRules : MethodName := ⟨R_Labels, "addRules", "(II)V"⟩
abbrev b_Labels_allRules : ByteArray := prog_5_method_10_code
def y_Labels_allRules : MethodName := ⟨R_Labels, "allRules", "()I"⟩
abbrev b_Labels_copyLabel : ByteArray := prog_5_method_11_code
def y_Labels_copyLabel : MethodName := ⟨R_Labels, "copyLabel", "(ILHostNames$Row;)V"⟩
abbrev b_Packer_init : ByteArray := prog_6_method_1_code
def y_Packer_init : MethodName := ⟨R_Packer, "<init>", "()V"⟩
abbrev b_Packer_write : ByteArray := prog_6_method_2_code
def y_Packer_write : MethodName := ⟨R_Packer, "write", "(LHostNames$Row;LHostNames$Row;)V"⟩
abbrev b_Packer_writeBasic : ByteArray := prog_6_method_3_code
def y_Packer_writeBasic : MethodName := ⟨R_Packer, "writeBasic", "(LHostNames$Row;LHostNames$Row;)I"⟩
abbrev b_Packer_leastFrom : ByteArray := prog_6_method_4_code
def y_Packer_leastFrom : MethodName := ⟨R_Packer, "leastFrom", "(LHostNames$Row;I)I"⟩
abbrev b_Packer_threshold : ByteArray := prog_6_method_5_code
def y_Packer_threshold : MethodName := ⟨R_Packer, "threshold", "(I)I"⟩
abbrev b_Packer_writeNumber : ByteArray := prog_6_method_6_code
def y_Packer_writeNumber : MethodName := ⟨R_Packer, "writeNumber", "(ILHostNames$Row;)V"⟩
abbrev b_Packer_codeOfDigit : ByteArray := prog_6_method_7_code
def y_Packer_codeOfDigit : MethodName := ⟨R_Packer, "codeOfDigit", "(I)I"⟩
abbrev b_Packer_digitOfCode : ByteArray := prog_6_method_8_code
def y_Packer_digitOfCode : MethodName := ⟨R_Packer, "digitOfCode", "(I)I"⟩
abbrev b_Packer_adapt : ByteArray := prog_6_method_9_code
def y_Packer_adapt : MethodName := ⟨R_Packer, "adapt", "(IIZ)V"⟩
abbrev b_Packer_read : ByteArray := prog_6_method_10_code
def y_Packer_read : MethodName := ⟨R_Packer, "read", "(LHostNames$Row;ILHostNames$Row;)Z"⟩
abbrev b_Packer_readBasic : ByteArray := prog_6_method_11_code
def y_Packer_readBasic : MethodName := ⟨R_Packer, "readBasic", "(LHostNames$Row;ILHostNames$Row;)Z"⟩
abbrev b_Packer_readNumber : ByteArray := prog_6_method_12_code
def y_Packer_readNumber : MethodName := ⟨R_Packer, "readNumber", "(LHostNames$Row;J)J"⟩
abbrev b_Row_init : ByteArray := prog_7_method_1_code
def y_Row_init : MethodName := ⟨R_Row, "<init>", "(I)V"⟩
abbrev b_Row_size : ByteArray := prog_7_method_2_code
def y_Row_size : MethodName := ⟨R_Row, "size", "()I"⟩
abbrev b_Row_get : ByteArray := prog_7_method_3_code
def y_Row_get : MethodName := ⟨R_Row, "get", "(I)I"⟩
abbrev b_Row_set : ByteArray := prog_7_method_4_code
def y_Row_set : MethodName := ⟨R_Row, "set", "(II)V"⟩
abbrev b_Row_empty : ByteArray := prog_7_method_5_code
def y_Row_empty : MethodName := ⟨R_Row, "empty", "()V"⟩
abbrev b_Row_add : ByteArray := prog_7_method_6_code
def y_Row_add : MethodName := ⟨R_Row, "add", "(I)Z"⟩
abbrev b_Row_insert : ByteArray := prog_7_method_7_code
def y_Row_insert : MethodName := ⟨R_Row, "insert", "(II)Z"⟩
abbrev b_Row_addPart : ByteArray := prog_7_method_8_code
def y_Row_addPart : MethodName := ⟨R_Row, "addPart", "(LHostNames$Row;II)V"⟩
abbrev b_Row_hasAbove : ByteArray := prog_7_method_9_code
def y_Row_hasAbove : MethodName := ⟨R_Row, "hasAbove", "(I)Z"⟩
abbrev b_Row_isSameAs : ByteArray := prog_7_method_10_code
def y_Row_isSameAs : MethodName := ⟨R_Row, "isSameAs", "(LHostNames$Row;)Z"⟩
abbrev b_Math_max : ByteArray := prog_10_method_65_code
def y_Math_max : MethodName := ⟨R_Math, "max", "(II)I"⟩
abbrev b_Math_min : ByteArray := prog_10_method_69_code
def y_Math_min : MethodName := ⟨R_Math, "min", "(II)I"⟩
end
section
theorem d_Codes_isWithin_0 : decode b_Codes_isWithin 0 = .ok (.iload_n 0, 1) := by decide +kernel
theorem d_Codes_isWithin_1 : decode b_Codes_isWithin 1 = .ok (.iload_n 1, 1) := by decide +kernel
theorem d_Codes_isWithin_2 : decode b_Codes_isWithin 2 = .ok (.if_icmp .lt 12, 3) := by decide +kernel
theorem d_Codes_isWithin_5 : decode b_Codes_isWithin 5 = .ok (.iload_n 0, 1) := by decide +kernel
theorem d_Codes_isWithin_6 : decode b_Codes_isWithin 6 = .ok (.iload_n 2, 1) := by decide +kernel
theorem d_Codes_isWithin_7 : decode b_Codes_isWithin 7 = .ok (.if_icmp .gt 7, 3) := by decide +kernel
theorem d_Codes_isWithin_10 : decode b_Codes_isWithin 10 = .ok (.iconst 1, 1) := by decide +kernel
theorem d_Codes_isWithin_11 : decode b_Codes_isWithin 11 = .ok (.goto 4, 3) := by decide +kernel
theorem d_Codes_isWithin_14 : decode b_Codes_isWithin 14 = .ok (.iconst 0, 1) := by decide +kernel
theorem d_Codes_isWithin_15 : decode b_Codes_isWithin 15 = .ok (.ireturn, 1) := by decide +kernel
theorem d_Codes_isCapital_0 : decode b_Codes_isCapital 0 = .ok (.iload_n 0, 1) := by decide +kernel
theorem d_Codes_isCapital_1 : decode b_Codes_isCapital 1 = .ok (.bipush 65, 2) := by decide +kernel
theorem d_Codes_isCapital_3 : decode b_Codes_isCapital 3 = .ok (.if_icmp .lt 13, 3) := by decide +kernel
theorem d_Codes_isCapital_6 : decode b_Codes_isCapital 6 = .ok (.iload_n 0, 1) := by decide +kernel
theorem d_Codes_isCapital_7 : decode b_Codes_isCapital 7 = .ok (.bipush 90, 2) := by decide +kernel
theorem d_Codes_isCapital_9 : decode b_Codes_isCapital 9 = .ok (.if_icmp .gt 7, 3) := by decide +kernel
theorem d_Codes_isCapital_12 : decode b_Codes_isCapital 12 = .ok (.iconst 1, 1) := by decide +kernel
theorem d_Codes_isCapital_13 : decode b_Codes_isCapital 13 = .ok (.goto 4, 3) := by decide +kernel
theorem d_Codes_isCapital_16 : decode b_Codes_isCapital 16 = .ok (.iconst 0, 1) := by decide +kernel
theorem d_Codes_isCapital_17 : decode b_Codes_isCapital 17 = .ok (.ireturn, 1) := by decide +kernel
theorem d_Codes_isOdd_0 : decode b_Codes_isOdd 0 = .ok (.iload_n 0, 1) := by decide +kernel
theorem d_Codes_isOdd_1 : decode b_Codes_isOdd 1 = .ok (.sipush 223, 3) := by decide +kernel
theorem d_Codes_isOdd_4 : decode b_Codes_isOdd 4 = .ok (.if_icmp .eq 24, 3) := by decide +kernel
theorem d_Codes_isOdd_7 : decode b_Codes_isOdd 7 = .ok (.iload_n 0, 1) := by decide +kernel
theorem d_Codes_isOdd_8 : decode b_Codes_isOdd 8 = .ok (.sipush 962, 3) := by decide +kernel
theorem d_Codes_isOdd_11 : decode b_Codes_isOdd 11 = .ok (.if_icmp .eq 17, 3) := by decide +kernel
theorem d_Codes_isOdd_14 : decode b_Codes_isOdd 14 = .ok (.iload_n 0, 1) := by decide +kernel
theorem d_Codes_isOdd_15 : decode b_Codes_isOdd 15 = .ok (.sipush 8204, 3) := by decide +kernel
theorem d_Codes_isOdd_18 : decode b_Codes_isOdd 18 = .ok (.if_icmp .eq 10, 3) := by decide +kernel
theorem d_Codes_isOdd_21 : decode b_Codes_isOdd 21 = .ok (.iload_n 0, 1) := by decide +kernel
theorem d_Codes_isOdd_22 : decode b_Codes_isOdd 22 = .ok (.sipush 8205, 3) := by decide +kernel
theorem d_Codes_isOdd_25 : decode b_Codes_isOdd 25 = .ok (.if_icmp .ne 7, 3) := by decide +kernel
theorem d_Codes_isOdd_28 : decode b_Codes_isOdd 28 = .ok (.iconst 1, 1) := by decide +kernel
theorem d_Codes_isOdd_29 : decode b_Codes_isOdd 29 = .ok (.goto 4, 3) := by decide +kernel
theorem d_Codes_isOdd_32 : decode b_Codes_isOdd 32 = .ok (.iconst 0, 1) := by decide +kernel
theorem d_Codes_isOdd_33 : decode b_Codes_isOdd 33 = .ok (.ireturn, 1) := by decide +kernel
theorem d_Codes_isInGoodRanges_0 : decode b_Codes_isInGoodRanges 0 = .ok (.iconst 0, 1) := by decide +kernel
theorem d_Codes_isInGoodRanges_1 : decode b_Codes_isInGoodRanges 1 = .ok (.istore_n 1, 1) := by decide +kernel
theorem d_Codes_isInGoodRanges_2 : decode b_Codes_isInGoodRanges 2 = .ok (.iload_n 1, 1) := by decide +kernel
theorem d_Codes_isInGoodRanges_3 : decode b_Codes_isInGoodRanges 3 = .ok (.iconst 1, 1) := by decide +kernel
theorem d_Codes_isInGoodRanges_4 : decode b_Codes_isInGoodRanges 4 = .ok (.iadd, 1) := by decide +kernel
theorem d_Codes_isInGoodRanges_5 : decode b_Codes_isInGoodRanges 5 = .ok (.getstatic 9, 3) := by decide +kernel
theorem d_Codes_isInGoodRanges_8 : decode b_Codes_isInGoodRanges 8 = .ok (.arraylength, 1) := by decide +kernel
theorem d_Codes_isInGoodRanges_9 : decode b_Codes_isInGoodRanges 9 = .ok (.if_icmp .ge 31, 3) := by decide +kernel
theorem d_Codes_isInGoodRanges_12 : decode b_Codes_isInGoodRanges 12 = .ok (.iload_n 0, 1) := by decide +kernel
theorem d_Codes_isInGoodRanges_13 : decode b_Codes_isInGoodRanges 13 = .ok (.getstatic 9, 3) := by decide +kernel
theorem d_Codes_isInGoodRanges_16 : decode b_Codes_isInGoodRanges 16 = .ok (.iload_n 1, 1) := by decide +kernel
theorem d_Codes_isInGoodRanges_17 : decode b_Codes_isInGoodRanges 17 = .ok (.iaload, 1) := by decide +kernel
theorem d_Codes_isInGoodRanges_18 : decode b_Codes_isInGoodRanges 18 = .ok (.if_icmp .lt 16, 3) := by decide +kernel
theorem d_Codes_isInGoodRanges_21 : decode b_Codes_isInGoodRanges 21 = .ok (.iload_n 0, 1) := by decide +kernel
theorem d_Codes_isInGoodRanges_22 : decode b_Codes_isInGoodRanges 22 = .ok (.getstatic 9, 3) := by decide +kernel
theorem d_Codes_isInGoodRanges_25 : decode b_Codes_isInGoodRanges 25 = .ok (.iload_n 1, 1) := by decide +kernel
theorem d_Codes_isInGoodRanges_26 : decode b_Codes_isInGoodRanges 26 = .ok (.iconst 1, 1) := by decide +kernel
theorem d_Codes_isInGoodRanges_27 : decode b_Codes_isInGoodRanges 27 = .ok (.iadd, 1) := by decide +kernel
theorem d_Codes_isInGoodRanges_28 : decode b_Codes_isInGoodRanges 28 = .ok (.iaload, 1) := by decide +kernel
theorem d_Codes_isInGoodRanges_29 : decode b_Codes_isInGoodRanges 29 = .ok (.if_icmp .gt 5, 3) := by decide +kernel
theorem d_Codes_isInGoodRanges_32 : decode b_Codes_isInGoodRanges 32 = .ok (.iconst 1, 1) := by decide +kernel
theorem d_Codes_isInGoodRanges_33 : decode b_Codes_isInGoodRanges 33 = .ok (.ireturn, 1) := by decide +kernel
theorem d_Codes_isInGoodRanges_34 : decode b_Codes_isInGoodRanges 34 = .ok (.iinc 1 2, 3) := by decide +kernel
theorem d_Codes_isInGoodRanges_37 : decode b_Codes_isInGoodRanges 37 = .ok (.goto (-35), 3) := by decide +kernel
theorem d_Codes_isInGoodRanges_40 : decode b_Codes_isInGoodRanges 40 = .ok (.iconst 0, 1) := by decide +kernel
theorem d_Codes_isInGoodRanges_41 : decode b_Codes_isInGoodRanges 41 = .ok (.ireturn, 1) := by decide +kernel
theorem d_Codes_isPlain_0 : decode b_Codes_isPlain 0 = .ok (.iload_n 0, 1) := by decide +kernel
theorem d_Codes_isPlain_1 : decode b_Codes_isPlain 1 = .ok (.iconst 0, 1) := by decide +kernel
theorem d_Codes_isPlain_2 : decode b_Codes_isPlain 2 = .ok (.bipush 127, 2) := by decide +kernel
theorem d_Codes_isPlain_4 : decode b_Codes_isPlain 4 = .ok (.invokestatic 15, 3) := by decide +kernel
theorem d_Codes_isPlain_7 : decode b_Codes_isPlain 7 = .ok (.ifCond .eq 21, 3) := by decide +kernel
theorem d_Codes_isPlain_10 : decode b_Codes_isPlain 10 = .ok (.iload_n 0, 1) := by decide +kernel
theorem d_Codes_isPlain_11 : decode b_Codes_isPlain 11 = .ok (.invokestatic 19, 3) := by decide +kernel
theorem d_Codes_isPlain_14 : decode b_Codes_isPlain 14 = .ok (.ifCond .ne 14, 3) := by decide +kernel
theorem d_Codes_isPlain_17 : decode b_Codes_isPlain 17 = .ok (.iload_n 0, 1) := by decide +kernel
theorem d_Codes_isPlain_18 : decode b_Codes_isPlain 18 = .ok (.invokestatic 23, 3) := by decide +kernel
theorem d_Codes_isPlain_21 : decode b_Codes_isPlain 21 = .ok (.ifCond .ne 7, 3) := by decide +kernel
theorem d_Codes_isPlain_24 : decode b_Codes_isPlain 24 = .ok (.iconst 1, 1) := by decide +kernel
theorem d_Codes_isPlain_25 : decode b_Codes_isPlain 25 = .ok (.goto 4, 3) := by decide +kernel
theorem d_Codes_isPlain_28 : decode b_Codes_isPlain 28 = .ok (.iconst 0, 1) := by decide +kernel
theorem d_Codes_isPlain_29 : decode b_Codes_isPlain 29 = .ok (.ireturn, 1) := by decide +kernel
theorem d_Codes_isGood_0 : decode b_Codes_isGood 0 = .ok (.iload_n 0, 1) := by decide +kernel
theorem d_Codes_isGood_1 : decode b_Codes_isGood 1 = .ok (.invokestatic 23, 3) := by decide +kernel
theorem d_Codes_isGood_4 : decode b_Codes_isGood 4 = .ok (.ifCond .ne 25, 3) := by decide +kernel
theorem d_Codes_isGood_7 : decode b_Codes_isGood 7 = .ok (.iload_n 1, 1) := by decide +kernel
theorem d_Codes_isGood_8 : decode b_Codes_isGood 8 = .ok (.ifCond .ne 10, 3) := by decide +kernel
theorem d_Codes_isGood_11 : decode b_Codes_isGood 11 = .ok (.iload_n 0, 1) := by decide +kernel
theorem d_Codes_isGood_12 : decode b_Codes_isGood 12 = .ok (.invokestatic 26, 3) := by decide +kernel
theorem d_Codes_isGood_15 : decode b_Codes_isGood 15 = .ok (.ifCond .ne 14, 3) := by decide +kernel
theorem d_Codes_isGood_18 : decode b_Codes_isGood 18 = .ok (.iload_n 2, 1) := by decide +kernel
theorem d_Codes_isGood_19 : decode b_Codes_isGood 19 = .ok (.ifCond .ne 14, 3) := by decide +kernel
theorem d_Codes_isGood_22 : decode b_Codes_isGood 22 = .ok (.iload_n 0, 1) := by decide +kernel
theorem d_Codes_isGood_23 : decode b_Codes_isGood 23 = .ok (.invokestatic 29, 3) := by decide +kernel
theorem d_Codes_isGood_26 : decode b_Codes_isGood 26 = .ok (.ifCond .eq 7, 3) := by decide +kernel
theorem d_Codes_isGood_29 : decode b_Codes_isGood 29 = .ok (.iconst 1, 1) := by decide +kernel
theorem d_Codes_isGood_30 : decode b_Codes_isGood 30 = .ok (.goto 4, 3) := by decide +kernel
theorem d_Codes_isGood_33 : decode b_Codes_isGood 33 = .ok (.iconst 0, 1) := by decide +kernel
theorem d_Codes_isGood_34 : decode b_Codes_isGood 34 = .ok (.ireturn, 1) := by decide +kernel
theorem d_Codes_mappedTo_0 : decode b_Codes_mappedTo 0 = .ok (.iload_n 0, 1) := by decide +kernel
theorem d_Codes_mappedTo_1 : decode b_Codes_mappedTo 1 = .ok (.ldc 32, 2) := by decide +kernel
theorem d_Codes_mappedTo_3 : decode b_Codes_mappedTo 3 = .ok (.ldc 33, 2) := by decide +kernel
theorem d_Codes_mappedTo_5 : decode b_Codes_mappedTo 5 = .ok (.invokestatic 15, 3) := by decide +kernel
theorem d_Codes_mappedTo_8 : decode b_Codes_mappedTo 8 = .ok (.ifCond .eq 24, 3) := by decide +kernel
theorem d_Codes_mappedTo_11 : decode b_Codes_mappedTo 11 = .ok (.iload_n 0, 1) := by decide +kernel
theorem d_Codes_mappedTo_12 : decode b_Codes_mappedTo 12 = .ok (.ldc 34, 2) := by decide +kernel
theorem d_Codes_mappedTo_14 : decode b_Codes_mappedTo 14 = .ok (.isub, 1) := by decide +kernel
theorem d_Codes_mappedTo_15 : decode b_Codes_mappedTo 15 = .ok (.istore_n 1, 1) := by decide +kernel
theorem d_Codes_mappedTo_16 : decode b_Codes_mappedTo 16 = .ok (.iload_n 1, 1) := by decide +kernel
theorem d_Codes_mappedTo_17 : decode b_Codes_mappedTo 17 = .ok (.invokestatic 19, 3) := by decide +kernel
theorem d_Codes_mappedTo_20 : decode b_Codes_mappedTo 20 = .ok (.ifCond .eq 10, 3) := by decide +kernel
theorem d_Codes_mappedTo_23 : decode b_Codes_mappedTo 23 = .ok (.iload_n 1, 1) := by decide +kernel
theorem d_Codes_mappedTo_24 : decode b_Codes_mappedTo 24 = .ok (.bipush 32, 2) := by decide +kernel
theorem d_Codes_mappedTo_26 : decode b_Codes_mappedTo 26 = .ok (.iadd, 1) := by decide +kernel
theorem d_Codes_mappedTo_27 : decode b_Codes_mappedTo 27 = .ok (.goto 4, 3) := by decide +kernel
theorem d_Codes_mappedTo_30 : decode b_Codes_mappedTo 30 = .ok (.iload_n 1, 1) := by decide +kernel
theorem d_Codes_mappedTo_31 : decode b_Codes_mappedTo 31 = .ok (.ireturn, 1) := by decide +kernel
theorem d_Codes_mappedTo_32 : decode b_Codes_mappedTo 32 = .ok (.iload_n 0, 1) := by decide +kernel
theorem d_Codes_mappedTo_33 : decode b_Codes_mappedTo 33 = .ok (.sipush 12290, 3) := by decide +kernel
theorem d_Codes_mappedTo_36 : decode b_Codes_mappedTo 36 = .ok (.if_icmp .ne 6, 3) := by decide +kernel
theorem d_Codes_mappedTo_39 : decode b_Codes_mappedTo 39 = .ok (.bipush 46, 2) := by decide +kernel
theorem d_Codes_mappedTo_41 : decode b_Codes_mappedTo 41 = .ok (.ireturn, 1) := by decide +kernel
theorem d_Codes_mappedTo_42 : decode b_Codes_mappedTo 42 = .ok (.iload_n 0, 1) := by decide +kernel
theorem d_Codes_mappedTo_43 : decode b_Codes_mappedTo 43 = .ok (.sipush 192, 3) := by decide +kernel
theorem d_Codes_mappedTo_46 : decode b_Codes_mappedTo 46 = .ok (.sipush 222, 3) := by decide +kernel
theorem d_Codes_mappedTo_49 : decode b_Codes_mappedTo 49 = .ok (.invokestatic 15, 3) := by decide +kernel
theorem d_Codes_mappedTo_52 : decode b_Codes_mappedTo 52 = .ok (.ifCond .eq 14, 3) := by decide +kernel
theorem d_Codes_mappedTo_55 : decode b_Codes_mappedTo 55 = .ok (.iload_n 0, 1) := by decide +kernel
theorem d_Codes_mappedTo_56 : decode b_Codes_mappedTo 56 = .ok (.sipush 215, 3) := by decide +kernel
theorem d_Codes_mappedTo_59 : decode b_Codes_mappedTo 59 = .ok (.if_icmp .eq 7, 3) := by decide +kernel
theorem d_Codes_mappedTo_62 : decode b_Codes_mappedTo 62 = .ok (.iconst 1, 1) := by decide +kernel
theorem d_Codes_mappedTo_63 : decode b_Codes_mappedTo 63 = .ok (.goto 4, 3) := by decide +kernel
theorem d_Codes_mappedTo_66 : decode b_Codes_mappedTo 66 = .ok (.iconst 0, 1) := by decide +kernel
theorem d_Codes_mappedTo_67 : decode b_Codes_mappedTo 67 = .ok (.istore_n 1, 1) := by decide +kernel
theorem d_Codes_mappedTo_68 : decode b_Codes_mappedTo 68 = .ok (.iload_n 0, 1) := by decide +kernel
theorem d_Codes_mappedTo_69 : decode b_Codes_mappedTo 69 = .ok (.sipush 913, 3) := by decide +kernel
theorem d_Codes_mappedTo_72 : decode b_Codes_mappedTo 72 = .ok (.sipush 937, 3) := by decide +kernel
theorem d_Codes_mappedTo_75 : decode b_Codes_mappedTo 75 = .ok (.invokestatic 15, 3) := by decide +kernel
theorem d_Codes_mappedTo_78 : decode b_Codes_mappedTo 78 = .ok (.ifCond .eq 14, 3) := by decide +kernel
theorem d_Codes_mappedTo_81 : decode b_Codes_mappedTo 81 = .ok (.iload_n 0, 1) := by decide +kernel
theorem d_Codes_mappedTo_82 : decode b_Codes_mappedTo 82 = .ok (.sipush 930, 3) := by decide +kernel
theorem d_Codes_mappedTo_85 : decode b_Codes_mappedTo 85 = .ok (.if_icmp .eq 7, 3) := by decide +kernel
theorem d_Codes_mappedTo_88 : decode b_Codes_mappedTo 88 = .ok (.iconst 1, 1) := by decide +kernel
theorem d_Codes_mappedTo_89 : decode b_Codes_mappedTo 89 = .ok (.goto 4, 3) := by decide +kernel
theorem d_Codes_mappedTo_92 : decode b_Codes_mappedTo 92 = .ok (.iconst 0, 1) := by decide +kernel
theorem d_Codes_mappedTo_93 : decode b_Codes_mappedTo 93 = .ok (.istore_n 2, 1) := by decide +kernel
theorem d_Codes_mappedTo_94 : decode b_Codes_mappedTo 94 = .ok (.iload_n 0, 1) := by decide +kernel
theorem d_Codes_mappedTo_95 : decode b_Codes_mappedTo 95 = .ok (.invokestatic 19, 3) := by decide +kernel
theorem d_Codes_mappedTo_98 : decode b_Codes_mappedTo 98 = .ok (.ifCond .ne 11, 3) := by decide +kernel
theorem d_Codes_mappedTo_101 : decode b_Codes_mappedTo 101 = .ok (.iload_n 1, 1) := by decide +kernel
theorem d_Codes_mappedTo_102 : decode b_Codes_mappedTo 102 = .ok (.ifCond .ne 7, 3) := by decide +kernel
theorem d_Codes_mappedTo_105 : decode b_Codes_mappedTo 105 = .ok (.iload_n 2, 1) := by decide +kernel
theorem d_Codes_mappedTo_106 : decode b_Codes_mappedTo 106 = .ok (.ifCond .eq 10, 3) := by decide +kernel
theorem d_Codes_mappedTo_109 : decode b_Codes_mappedTo 109 = .ok (.iload_n 0, 1) := by decide +kernel
theorem d_Codes_mappedTo_110 : decode b_Codes_mappedTo 110 = .ok (.bipush 32, 2) := by decide +kernel
theorem d_Codes_mappedTo_112 : decode b_Codes_mappedTo 112 = .ok (.iadd, 1) := by decide +kernel
theorem d_Codes_mappedTo_113 : decode b_Codes_mappedTo 113 = .ok (.goto 4, 3) := by decide +kernel
theorem d_Codes_mappedTo_116 : decode b_Codes_mappedTo 116 = .ok (.iload_n 0, 1) := by decide +kernel
theorem d_Codes_mappedTo_117 : decode b_Codes_mappedTo 117 = .ok (.ireturn, 1) := by decide +kernel
theorem d_Codes_order_0 : decode b_Codes_order 0 = .ok (.iload_n 0, 1) := by decide +kernel
theorem d_Codes_order_1 : decode b_Codes_order 1 = .ok (.lookupswitch 73 #[(768, 59), (769, 59), (776, 59), (807, 63), (1614, 67), (2381, 70)], 59) := by decide +kernel
theorem d_Codes_order_60 : decode b_Codes_order 60 = .ok (.sipush 230, 3) := by decide +kernel
theorem d_Codes_order_63 : decode b_Codes_order 63 = .ok (.ireturn, 1) := by decide +kernel
theorem d_Codes_order_64 : decode b_Codes_order 64 = .ok (.sipush 202, 3) := by decide +kernel
theorem d_Codes_order_67 : decode b_Codes_order 67 = .ok (.ireturn, 1) := by decide +kernel
theorem d_Codes_order_68 : decode b_Codes_order 68 = .ok (.bipush 30, 2) := by decide +kernel
theorem d_Codes_order_70 : decode b_Codes_order 70 = .ok (.ireturn, 1) := by decide +kernel
theorem d_Codes_order_71 : decode b_Codes_order 71 = .ok (.bipush 9, 2) := by decide +kernel
theorem d_Codes_order_73 : decode b_Codes_order 73 = .ok (.ireturn, 1) := by decide +kernel
theorem d_Codes_order_74 : decode b_Codes_order 74 = .ok (.iconst 0, 1) := by decide +kernel
theorem d_Codes_order_75 : decode b_Codes_order 75 = .ok (.ireturn, 1) := by decide +kernel
theorem d_Codes_isMark_0 : decode b_Codes_isMark 0 = .ok (.iload_n 0, 1) := by decide +kernel
theorem d_Codes_isMark_1 : decode b_Codes_isMark 1 = .ok (.invokestatic 35, 3) := by decide +kernel
theorem d_Codes_isMark_4 : decode b_Codes_isMark 4 = .ok (.ifCond .le 7, 3) := by decide +kernel
theorem d_Codes_isMark_7 : decode b_Codes_isMark 7 = .ok (.iconst 1, 1) := by decide +kernel
theorem d_Codes_isMark_8 : decode b_Codes_isMark 8 = .ok (.goto 4, 3) := by decide +kernel
theorem d_Codes_isMark_11 : decode b_Codes_isMark 11 = .ok (.iconst 0, 1) := by decide +kernel
theorem d_Codes_isMark_12 : decode b_Codes_isMark 12 = .ok (.ireturn, 1) := by decide +kernel
theorem d_Codes_direction_0 : decode b_Codes_direction 0 = .ok (.iload_n 0, 1) := by decide +kernel
theorem d_Codes_direction_1 : decode b_Codes_direction 1 = .ok (.invokestatic 39, 3) := by decide +kernel
theorem d_Codes_direction_4 : decode b_Codes_direction 4 = .ok (.ifCond .eq 6, 3) := by decide +kernel
theorem d_Codes_direction_7 : decode b_Codes_direction 7 = .ok (.bipush 64, 2) := by decide +kernel
theorem d_Codes_direction_9 : decode b_Codes_direction 9 = .ok (.ireturn, 1) := by decide +kernel
theorem d_Codes_direction_10 : decode b_Codes_direction 10 = .ok (.iload_n 0, 1) := by decide +kernel
theorem d_Codes_direction_11 : decode b_Codes_direction 11 = .ok (.iconst 0, 1) := by decide +kernel
theorem d_Codes_direction_12 : decode b_Codes_direction 12 = .ok (.bipush 127, 2) := by decide +kernel
theorem d_Codes_direction_14 : decode b_Codes_direction 14 = .ok (.invokestatic 15, 3) := by decide +kernel
theorem d_Codes_direction_17 : decode b_Codes_direction 17 = .ok (.ifCond .eq 8, 3) := by decide +kernel
theorem d_Codes_direction_20 : decode b_Codes_direction 20 = .ok (.iload_n 0, 1) := by decide +kernel
theorem d_Codes_direction_21 : decode b_Codes_direction 21 = .ok (.invokestatic 42, 3) := by decide +kernel
theorem d_Codes_direction_24 : decode b_Codes_direction 24 = .ok (.ireturn, 1) := by decide +kernel
theorem d_Codes_direction_25 : decode b_Codes_direction 25 = .ok (.iload_n 0, 1) := by decide +kernel
theorem d_Codes_direction_26 : decode b_Codes_direction 26 = .ok (.sipush 1488, 3) := by decide +kernel
theorem d_Codes_direction_29 : decode b_Codes_direction 29 = .ok (.sipush 1514, 3) := by decide +kernel
theorem d_Codes_direction_32 : decode b_Codes_direction 32 = .ok (.invokestatic 15, 3) := by decide +kernel
theorem d_Codes_direction_35 : decode b_Codes_direction 35 = .ok (.ifCond .eq 5, 3) := by decide +kernel
theorem d_Codes_direction_38 : decode b_Codes_direction 38 = .ok (.iconst 2, 1) := by decide +kernel
theorem d_Codes_direction_39 : decode b_Codes_direction 39 = .ok (.ireturn, 1) := by decide +kernel
theorem d_Codes_direction_40 : decode b_Codes_direction 40 = .ok (.iload_n 0, 1) := by decide +kernel
theorem d_Codes_direction_41 : decode b_Codes_direction 41 = .ok (.sipush 1575, 3) := by decide +kernel
theorem d_Codes_direction_44 : decode b_Codes_direction 44 = .ok (.if_icmp .eq 10, 3) := by decide +kernel
theorem d_Codes_direction_47 : decode b_Codes_direction 47 = .ok (.iload_n 0, 1) := by decide +kernel
theorem d_Codes_direction_48 : decode b_Codes_direction 48 = .ok (.sipush 1576, 3) := by decide +kernel
theorem d_Codes_direction_51 : decode b_Codes_direction 51 = .ok (.if_icmp .ne 5, 3) := by decide +kernel
theorem d_Codes_direction_54 : decode b_Codes_direction 54 = .ok (.iconst 4, 1) := by decide +kernel
theorem d_Codes_direction_55 : decode b_Codes_direction 55 = .ok (.ireturn, 1) := by decide +kernel
theorem d_Codes_direction_56 : decode b_Codes_direction 56 = .ok (.iload_n 0, 1) := by decide +kernel
theorem d_Codes_direction_57 : decode b_Codes_direction 57 = .ok (.sipush 1632, 3) := by decide +kernel
theorem d_Codes_direction_60 : decode b_Codes_direction 60 = .ok (.sipush 1641, 3) := by decide +kernel
theorem d_Codes_direction_63 : decode b_Codes_direction 63 = .ok (.invokestatic 15, 3) := by decide +kernel
theorem d_Codes_direction_66 : decode b_Codes_direction 66 = .ok (.ifCond .eq 6, 3) := by decide +kernel
theorem d_Codes_direction_69 : decode b_Codes_direction 69 = .ok (.bipush 8, 2) := by decide +kernel
theorem d_Codes_direction_71 : decode b_Codes_direction 71 = .ok (.ireturn, 1) := by decide +kernel
theorem d_Codes_direction_72 : decode b_Codes_direction 72 = .ok (.iload_n 0, 1) := by decide +kernel
theorem d_Codes_direction_73 : decode b_Codes_direction 73 = .ok (.sipush 1776, 3) := by decide +kernel
theorem d_Codes_direction_76 : decode b_Codes_direction 76 = .ok (.sipush 1785, 3) := by decide +kernel
theorem d_Codes_direction_79 : decode b_Codes_direction 79 = .ok (.invokestatic 15, 3) := by decide +kernel
theorem d_Codes_direction_82 : decode b_Codes_direction 82 = .ok (.ifCond .eq 6, 3) := by decide +kernel
theorem d_Codes_direction_85 : decode b_Codes_direction 85 = .ok (.bipush 16, 2) := by decide +kernel
theorem d_Codes_direction_87 : decode b_Codes_direction 87 = .ok (.ireturn, 1) := by decide +kernel
theorem d_Codes_direction_88 : decode b_Codes_direction 88 = .ok (.iload_n 0, 1) := by decide +kernel
theorem d_Codes_direction_89 : decode b_Codes_direction 89 = .ok (.sipush 8204, 3) := by decide +kernel
theorem d_Codes_direction_92 : decode b_Codes_direction 92 = .ok (.if_icmp .eq 10, 3) := by decide +kernel
theorem d_Codes_direction_95 : decode b_Codes_direction 95 = .ok (.iload_n 0, 1) := by decide +kernel
theorem d_Codes_direction_96 : decode b_Codes_direction 96 = .ok (.sipush 8205, 3) := by decide +kernel
theorem d_Codes_direction_99 : decode b_Codes_direction 99 = .ok (.if_icmp .ne 9, 3) := by decide +kernel
theorem d_Codes_direction_102 : decode b_Codes_direction 102 = .ok (.sipush 128, 3) := by decide +kernel
theorem d_Codes_direction_105 : decode b_Codes_direction 105 = .ok (.goto 4, 3) := by decide +kernel
theorem d_Codes_direction_108 : decode b_Codes_direction 108 = .ok (.iconst 1, 1) := by decide +kernel
theorem d_Codes_direction_109 : decode b_Codes_direction 109 = .ok (.ireturn, 1) := by decide +kernel
theorem d_Codes_asciiDirection_0 : decode b_Codes_asciiDirection 0 = .ok (.iload_n 0, 1) := by decide +kernel
theorem d_Codes_asciiDirection_1 : decode b_Codes_asciiDirection 1 = .ok (.bipush 48, 2) := by decide +kernel
theorem d_Codes_asciiDirection_3 : decode b_Codes_asciiDirection 3 = .ok (.bipush 57, 2) := by decide +kernel
theorem d_Codes_asciiDirection_5 : decode b_Codes_asciiDirection 5 = .ok (.invokestatic 15, 3) := by decide +kernel
theorem d_Codes_asciiDirection_8 : decode b_Codes_asciiDirection 8 = .ok (.ifCond .eq 6, 3) := by decide +kernel
theorem d_Codes_asciiDirection_11 : decode b_Codes_asciiDirection 11 = .ok (.bipush 16, 2) := by decide +kernel
theorem d_Codes_asciiDirection_13 : decode b_Codes_asciiDirection 13 = .ok (.ireturn, 1) := by decide +kernel
theorem d_Codes_asciiDirection_14 : decode b_Codes_asciiDirection 14 = .ok (.iload_n 0, 1) := by decide +kernel
theorem d_Codes_asciiDirection_15 : decode b_Codes_asciiDirection 15 = .ok (.bipush 45, 2) := by decide +kernel
theorem d_Codes_asciiDirection_17 : decode b_Codes_asciiDirection 17 = .ok (.if_icmp .ne 6, 3) := by decide +kernel
theorem d_Codes_asciiDirection_20 : decode b_Codes_asciiDirection 20 = .ok (.bipush 32, 2) := by decide +kernel
theorem d_Codes_asciiDirection_22 : decode b_Codes_asciiDirection 22 = .ok (.ireturn, 1) := by decide +kernel
theorem d_Codes_asciiDirection_23 : decode b_Codes_asciiDirection 23 = .ok (.iload_n 0, 1) := by decide +kernel
theorem d_Codes_asciiDirection_24 : decode b_Codes_asciiDirection 24 = .ok (.invokestatic 19, 3) := by decide +kernel
theorem d_Codes_asciiDirection_27 : decode b_Codes_asciiDirection 27 = .ok (.ifCond .ne 14, 3) := by decide +kernel
theorem d_Codes_asciiDirection_30 : decode b_Codes_asciiDirection 30 = .ok (.iload_n 0, 1) := by decide +kernel
theorem d_Codes_asciiDirection_31 : decode b_Codes_asciiDirection 31 = .ok (.bipush 97, 2) := by decide +kernel
theorem d_Codes_asciiDirection_33 : decode b_Codes_asciiDirection 33 = .ok (.bipush 122, 2) := by decide +kernel
theorem d_Codes_asciiDirection_35 : decode b_Codes_asciiDirection 35 = .ok (.invokestatic 15, 3) := by decide +kernel
theorem d_Codes_asciiDirection_38 : decode b_Codes_asciiDirection 38 = .ok (.ifCond .eq 7, 3) := by decide +kernel
theorem d_Codes_asciiDirection_41 : decode b_Codes_asciiDirection 41 = .ok (.iconst 1, 1) := by decide +kernel
theorem d_Codes_asciiDirection_42 : decode b_Codes_asciiDirection 42 = .ok (.goto 6, 3) := by decide +kernel
theorem d_Codes_asciiDirection_45 : decode b_Codes_asciiDirection 45 = .ok (.sipush 256, 3) := by decide +kernel
theorem d_Codes_asciiDirection_48 : decode b_Codes_asciiDirection 48 = .ok (.ireturn, 1) := by decide +kernel
theorem d_Codes_hasRightToLeft_0 : decode b_Codes_hasRightToLeft 0 = .ok (.iconst 0, 1) := by decide +kernel
theorem d_Codes_hasRightToLeft_1 : decode b_Codes_hasRightToLeft 1 = .ok (.istore_n 1, 1) := by decide +kernel
theorem d_Codes_hasRightToLeft_2 : decode b_Codes_hasRightToLeft 2 = .ok (.iload_n 1, 1) := by decide +kernel
theorem d_Codes_hasRightToLeft_3 : decode b_Codes_hasRightToLeft 3 = .ok (.aload_n 0, 1) := by decide +kernel
theorem d_Codes_hasRightToLeft_4 : decode b_Codes_hasRightToLeft 4 = .ok (.invokevirtual 45, 3) := by decide +kernel
theorem d_Codes_hasRightToLeft_7 : decode b_Codes_hasRightToLeft 7 = .ok (.if_icmp .ge 25, 3) := by decide +kernel
theorem d_Codes_hasRightToLeft_10 : decode b_Codes_hasRightToLeft 10 = .ok (.aload_n 0, 1) := by decide +kernel
theorem d_Codes_hasRightToLeft_11 : decode b_Codes_hasRightToLeft 11 = .ok (.iload_n 1, 1) := by decide +kernel
theorem d_Codes_hasRightToLeft_12 : decode b_Codes_hasRightToLeft 12 = .ok (.invokevirtual 51, 3) := by decide +kernel
theorem d_Codes_hasRightToLeft_15 : decode b_Codes_hasRightToLeft 15 = .ok (.invokestatic 54, 3) := by decide +kernel
theorem d_Codes_hasRightToLeft_18 : decode b_Codes_hasRightToLeft 18 = .ok (.bipush 14, 2) := by decide +kernel
theorem d_Codes_hasRightToLeft_20 : decode b_Codes_hasRightToLeft 20 = .ok (.iand, 1) := by decide +kernel
theorem d_Codes_hasRightToLeft_21 : decode b_Codes_hasRightToLeft 21 = .ok (.ifCond .eq 5, 3) := by decide +kernel
theorem d_Codes_hasRightToLeft_24 : decode b_Codes_hasRightToLeft 24 = .ok (.iconst 1, 1) := by decide +kernel
theorem d_Codes_hasRightToLeft_25 : decode b_Codes_hasRightToLeft 25 = .ok (.ireturn, 1) := by decide +kernel
theorem d_Codes_hasRightToLeft_26 : decode b_Codes_hasRightToLeft 26 = .ok (.iinc 1 1, 3) := by decide +kernel
theorem d_Codes_hasRightToLeft_29 : decode b_Codes_hasRightToLeft 29 = .ok (.goto (-27), 3) := by decide +kernel
theorem d_Codes_hasRightToLeft_32 : decode b_Codes_hasRightToLeft 32 = .ok (.iconst 0, 1) := by decide +kernel
theorem d_Codes_hasRightToLeft_33 : decode b_Codes_hasRightToLeft 33 = .ok (.ireturn, 1) := by decide +kernel
theorem d_Codes_joining_0 : decode b_Codes_joining 0 = .ok (.iload_n 0, 1) := by decide +kernel
theorem d_Codes_joining_1 : decode b_Codes_joining 1 = .ok (.lookupswitch 49 #[(1575, 43), (1576, 45), (1614, 47), (2381, 47)], 43) := by decide +kernel
theorem d_Codes_joining_44 : decode b_Codes_joining 44 = .ok (.iconst 1, 1) := by decide +kernel
theorem d_Codes_joining_45 : decode b_Codes_joining 45 = .ok (.ireturn, 1) := by decide +kernel
theorem d_Codes_joining_46 : decode b_Codes_joining 46 = .ok (.iconst 2, 1) := by decide +kernel
theorem d_Codes_joining_47 : decode b_Codes_joining 47 = .ok (.ireturn, 1) := by decide +kernel
theorem d_Codes_joining_48 : decode b_Codes_joining 48 = .ok (.iconst 3, 1) := by decide +kernel
theorem d_Codes_joining_49 : decode b_Codes_joining 49 = .ok (.ireturn, 1) := by decide +kernel
theorem d_Codes_joining_50 : decode b_Codes_joining 50 = .ok (.iconst 0, 1) := by decide +kernel
theorem d_Codes_joining_51 : decode b_Codes_joining 51 = .ok (.ireturn, 1) := by decide +kernel
theorem d_Labels_init_0 : decode b_Labels_init 0 = .ok (.aload_n 0, 1) := by decide +kernel
theorem d_Labels_init_1 : decode b_Labels_init 1 = .ok (.invokespecial 3, 3) := by decide +kernel
theorem d_Labels_init_4 : decode b_Labels_init 4 = .ok (.aload_n 0, 1) := by decide +kernel
theorem d_Labels_init_5 : decode b_Labels_init 5 = .ok (.new 9, 3) := by decide +kernel
theorem d_Labels_init_8 : decode b_Labels_init 8 = .ok (.dup, 1) := by decide +kernel
theorem d_Labels_init_9 : decode b_Labels_init 9 = .ok (.bipush 96, 2) := by decide +kernel
theorem d_Labels_init_11 : decode b_Labels_init 11 = .ok (.invokespecial 11, 3) := by decide +kernel
theorem d_Labels_init_14 : decode b_Labels_init 14 = .ok (.putfield 14, 3) := by decide +kernel
theorem d_Labels_init_17 : decode b_Labels_init 17 = .ok (.aload_n 0, 1) := by decide +kernel
theorem d_Labels_init_18 : decode b_Labels_init 18 = .ok (.bipush 49, 2) := by decide +kernel
theorem d_Labels_init_20 : decode b_Labels_init 20 = .ok (.newarray .int, 2) := by decide +kernel
theorem d_Labels_init_22 : decode b_Labels_init 22 = .ok (.putfield 20, 3) := by decide +kernel
theorem d_Labels_init_25 : decode b_Labels_init 25 = .ok (.aload_n 0, 1) := by decide +kernel
theorem d_Labels_init_26 : decode b_Labels_init 26 = .ok (.bipush 49, 2) := by decide +kernel
theorem d_Labels_init_28 : decode b_Labels_init 28 = .ok (.newarray .int, 2) := by decide +kernel
theorem d_Labels_init_30 : decode b_Labels_init 30 = .ok (.putfield 24, 3) := by decide +kernel
theorem d_Labels_init_33 : decode b_Labels_init 33 = .ok (.aload_n 0, 1) := by decide +kernel
theorem d_Labels_init_34 : decode b_Labels_init 34 = .ok (.bipush 49, 2) := by decide +kernel
theorem d_Labels_init_36 : decode b_Labels_init 36 = .ok (.newarray .boolean, 2) := by decide +kernel
theorem d_Labels_init_38 : decode b_Labels_init 38 = .ok (.putfield 27, 3) := by decide +kernel
theorem d_Labels_init_41 : decode b_Labels_init 41 = .ok (.aload_n 0, 1) := by decide +kernel
theorem d_Labels_init_42 : decode b_Labels_init 42 = .ok (.iconst 0, 1) := by decide +kernel
theorem d_Labels_init_43 : decode b_Labels_init 43 = .ok (.putfield 31, 3) := by decide +kernel
theorem d_Labels_init_46 : decode b_Labels_init 46 = .ok (.return_, 1) := by decide +kernel
theorem d_Labels_empty_0 : decode b_Labels_empty 0 = .ok (.aload_n 0, 1) := by decide +kernel
theorem d_Labels_empty_1 : decode b_Labels_empty 1 = .ok (.getfield 14, 3) := by decide +kernel
theorem d_Labels_empty_4 : decode b_Labels_empty 4 = .ok (.invokevirtual 35, 3) := by decide +kernel
theorem d_Labels_empty_7 : decode b_Labels_empty 7 = .ok (.aload_n 0, 1) := by decide +kernel
theorem d_Labels_empty_8 : decode b_Labels_empty 8 = .ok (.iconst 0, 1) := by decide +kernel
theorem d_Labels_empty_9 : decode b_Labels_empty 9 = .ok (.putfield 31, 3) := by decide +kernel
theorem d_Labels_empty_12 : decode b_Labels_empty 12 = .ok (.return_, 1) := by decide +kernel
theorem d_Labels_add_0 : decode b_Labels_add 0 = .ok (.aload_n 0, 1) := by decide +kernel
theorem d_Labels_add_1 : decode b_Labels_add 1 = .ok (.getfield 31, 3) := by decide +kernel
theorem d_Labels_add_4 : decode b_Labels_add 4 = .ok (.bipush 49, 2) := by decide +kernel
theorem d_Labels_add_6 : decode b_Labels_add 6 = .ok (.if_icmp .lt 4, 3) := by decide +kernel
theorem d_Labels_add_9 : decode b_Labels_add 9 = .ok (.return_, 1) := by decide +kernel
theorem d_Labels_add_10 : decode b_Labels_add 10 = .ok (.aload_n 0, 1) := by decide +kernel
theorem d_Labels_add_11 : decode b_Labels_add 11 = .ok (.getfield 14, 3) := by decide +kernel
theorem d_Labels_add_14 : decode b_Labels_add 14 = .ok (.aload_n 1, 1) := by decide +kernel
theorem d_Labels_add_15 : decode b_Labels_add 15 = .ok (.iconst 0, 1) := by decide +kernel
theorem d_Labels_add_16 : decode b_Labels_add 16 = .ok (.aload_n 1, 1) := by decide +kernel
theorem d_Labels_add_17 : decode b_Labels_add 17 = .ok (.invokevirtual 38, 3) := by decide +kernel
theorem d_Labels_add_20 : decode b_Labels_add 20 = .ok (.invokevirtual 42, 3) := by decide +kernel
theorem d_Labels_add_23 : decode b_Labels_add 23 = .ok (.aload_n 0, 1) := by decide +kernel
theorem d_Labels_add_24 : decode b_Labels_add 24 = .ok (.getfield 20, 3) := by decide +kernel
theorem d_Labels_add_27 : decode b_Labels_add 27 = .ok (.aload_n 0, 1) := by decide +kernel
theorem d_Labels_add_28 : decode b_Labels_add 28 = .ok (.getfield 31, 3) := by decide +kernel
theorem d_Labels_add_31 : decode b_Labels_add 31 = .ok (.aload_n 0, 1) := by decide +kernel
theorem d_Labels_add_32 : decode b_Labels_add 32 = .ok (.getfield 14, 3) := by decide +kernel
theorem d_Labels_add_35 : decode b_Labels_add 35 = .ok (.invokevirtual 38, 3) := by decide +kernel
theorem d_Labels_add_38 : decode b_Labels_add 38 = .ok (.iastore, 1) := by decide +kernel
theorem d_Labels_add_39 : decode b_Labels_add 39 = .ok (.aload_n 0, 1) := by decide +kernel
theorem d_Labels_add_40 : decode b_Labels_add 40 = .ok (.getfield 24, 3) := by decide +kernel
theorem d_Labels_add_43 : decode b_Labels_add 43 = .ok (.aload_n 0, 1) := by decide +kernel
theorem d_Labels_add_44 : decode b_Labels_add 44 = .ok (.getfield 31, 3) := by decide +kernel
theorem d_Labels_add_47 : decode b_Labels_add 47 = .ok (.iload_n 3, 1) := by decide +kernel
theorem d_Labels_add_48 : decode b_Labels_add 48 = .ok (.iastore, 1) := by decide +kernel
theorem d_Labels_add_49 : decode b_Labels_add 49 = .ok (.aload_n 0, 1) := by decide +kernel
theorem d_Labels_add_50 : decode b_Labels_add 50 = .ok (.getfield 27, 3) := by decide +kernel
theorem d_Labels_add_53 : decode b_Labels_add 53 = .ok (.aload_n 0, 1) := by decide +kernel
theorem d_Labels_add_54 : decode b_Labels_add 54 = .ok (.getfield 31, 3) := by decide +kernel
theorem d_Labels_add_57 : decode b_Labels_add 57 = .ok (.iload_n 2, 1) := by decide +kernel
theorem d_Labels_add_58 : decode b_Labels_add 58 = .ok (.bastore, 1) := by decide +kernel
theorem d_Labels_add_59 : decode b_Labels_add 59 = .ok (.aload_n 0, 1) := by decide +kernel
theorem d_Labels_add_60 : decode b_Labels_add 60 = .ok (.dup, 1) := by decide +kernel
theorem d_Labels_add_61 : decode b_Labels_add 61 = .ok (.getfield 31, 3) := by decide +kernel
theorem d_Labels_add_64 : decode b_Labels_add 64 = .ok (.iconst 1, 1) := by decide +kernel
theorem d_Labels_add_65 : decode b_Labels_add 65 = .ok (.iadd, 1) := by decide +kernel
theorem d_Labels_add_66 : decode b_Labels_add 66 = .ok (.putfield 31, 3) := by decide +kernel
theorem d_Labels_add_69 : decode b_Labels_add 69 = .ok (.return_, 1) := by decide +kernel
theorem d_Labels_count_0 : decode b_Labels_count 0 = .ok (.aload_n 0, 1) := by decide +kernel
theorem d_Labels_count_1 : decode b_Labels_count 1 = .ok (.getfield 31, 3) := by decide +kernel
theorem d_Labels_count_4 : decode b_Labels_count 4 = .ok (.ireturn, 1) := by decide +kernel
theorem d_Labels_codes_0 : decode b_Labels_codes 0 = .ok (.aload_n 0, 1) := by decide +kernel
theorem d_Labels_codes_1 : decode b_Labels_codes 1 = .ok (.getfield 14, 3) := by decide +kernel
theorem d_Labels_codes_4 : decode b_Labels_codes 4 = .ok (.areturn, 1) := by decide +kernel
theorem d_Labels_has_0 : decode b_Labels_has 0 = .ok (.iload_n 1, 1) := by decide +kernel
theorem d_Labels_has_1 : decode b_Labels_has 1 = .ok (.ifCond .lt 15, 3) := by decide +kernel
theorem d_Labels_has_4 : decode b_Labels_has 4 = .ok (.iload_n 1, 1) := by decide +kernel
theorem d_Labels_has_5 : decode b_Labels_has 5 = .ok (.aload_n 0, 1) := by decide +kernel
theorem d_Labels_has_6 : decode b_Labels_has 6 = .ok (.getfield 31, 3) := by decide +kernel
theorem d_Labels_has_9 : decode b_Labels_has 9 = .ok (.if_icmp .ge 7, 3) := by decide +kernel
theorem d_Labels_has_12 : decode b_Labels_has 12 = .ok (.iconst 1, 1) := by decide +kernel
theorem d_Labels_has_13 : decode b_Labels_has 13 = .ok (.goto 4, 3) := by decide +kernel
theorem d_Labels_has_16 : decode b_Labels_has 16 = .ok (.iconst 0, 1) := by decide +kernel
theorem d_Labels_has_17 : decode b_Labels_has 17 = .ok (.ireturn, 1) := by decide +kernel
theorem d_Labels_wasTagged_0 : decode b_Labels_wasTagged 0 = .ok (.aload_n 0, 1) := by decide +kernel
theorem d_Labels_wasTagged_1 : decode b_Labels_wasTagged 1 = .ok (.iload_n 1, 1) := by decide +kernel
theorem d_Labels_wasTagged_2 : decode b_Labels_wasTagged 2 = .ok (.invokevirtual 46, 3) := by decide +kernel
theorem d_Labels_wasTagged_5 : decode b_Labels_wasTagged 5 = .ok (.ifCond .eq 16, 3) := by decide +kernel
theorem d_Labels_wasTagged_8 : decode b_Labels_wasTagged 8 = .ok (.aload_n 0, 1) := by decide +kernel
theorem d_Labels_wasTagged_9 : decode b_Labels_wasTagged 9 = .ok (.getfield 27, 3) := by decide +kernel
theorem d_Labels_wasTagged_12 : decode b_Labels_wasTagged 12 = .ok (.iload_n 1, 1) := by decide +kernel
theorem d_Labels_wasTagged_13 : decode b_Labels_wasTagged 13 = .ok (.baload, 1) := by decide +kernel
theorem d_Labels_wasTagged_14 : decode b_Labels_wasTagged 14 = .ok (.ifCond .eq 7, 3) := by decide +kernel
theorem d_Labels_wasTagged_17 : decode b_Labels_wasTagged 17 = .ok (.iconst 1, 1) := by decide +kernel
theorem d_Labels_wasTagged_18 : decode b_Labels_wasTagged 18 = .ok (.goto 4, 3) := by decide +kernel
theorem d_Labels_wasTagged_21 : decode b_Labels_wasTagged 21 = .ok (.iconst 0, 1) := by decide +kernel
theorem d_Labels_wasTagged_22 : decode b_Labels_wasTagged 22 = .ok (.ireturn, 1) := by decide +kernel
theorem d_Labels_rules_0 : decode b_Labels_rules 0 = .ok (.aload_n 0, 1) := by decide +kernel
theorem d_Labels_rules_1 : decode b_Labels_rules 1 = .ok (.iload_n 1, 1) := by decide +kernel
theorem d_Labels_rules_2 : decode b_Labels_rules 2 = .ok (.invokevirtual 46, 3) := by decide +kernel
theorem d_Labels_rules_5 : decode b_Labels_rules 5 = .ok (.ifCond .eq 12, 3) := by decide +kernel
theorem d_Labels_rules_8 : decode b_Labels_rules 8 = .ok (.aload_n 0, 1) := by decide +kernel
theorem d_Labels_rules_9 : decode b_Labels_rules 9 = .ok (.getfield 24, 3) := by decide +kernel
theorem d_Labels_rules_12 : decode b_Labels_rules 12 = .ok (.iload_n 1, 1) := by decide +kernel
theorem d_Labels_rules_13 : decode b_Labels_rules 13 = .ok (.iaload, 1) := by decide +kernel
theorem d_Labels_rules_14 : decode b_Labels_rules 14 = .ok (.goto 4, 3) := by decide +kernel
theorem d_Labels_rules_17 : decode b_Labels_rules 17 = .ok (.iconst (-1), 1) := by decide +kernel
theorem d_Labels_rules_18 : decode b_Labels_rules 18 = .ok (.ireturn, 1) := by decide +kernel
theorem d_Labels_addRules_0 : decode b_Labels_addRules 0 = .ok (.aload_n 0, 1) := by decide +kernel
theorem d_Labels_addRules_1 : decode b_Labels_addRules 1 = .ok (.iload_n 1, 1) := by decide +kernel
theorem d_Labels_addRules_2 : decode b_Labels_addRules 2 = .ok (.invokevirtual 46, 3) := by decide +kernel
theorem d_Labels_addRules_5 : decode b_Labels_addRules 5 = .ok (.ifCond .eq 13, 3) := by decide +kernel
theorem d_Labels_addRules_8 : decode b_Labels_addRules 8 = .ok (.aload_n 0, 1) := by decide +kernel
theorem d_Labels_addRules_9 : decode b_Labels_addRules 9 = .ok (.getfield 24, 3) := by decide +kernel
theorem d_Labels_addRules_12 : decode b_Labels_addRules 12 = .ok (.iload_n 1, 1) := by decide +kernel
theorem d_Labels_addRules_13 : decode b_Labels_addRules 13 = .ok (.dup2, 1) := by decide +kernel
theorem d_Labels_addRules_14 : decode b_Labels_addRules 14 = .ok (.iaload, 1) := by decide +kernel
theorem d_Labels_addRules_15 : decode b_Labels_addRules 15 = .ok (.iload_n 2, 1) := by decide +kernel
theorem d_Labels_addRules_16 : decode b_Labels_addRules 16 = .ok (.ior, 1) := by decide +kernel
theorem d_Labels_addRules_17 : decode b_Labels_addRules 17 = .ok (.iastore, 1) := by decide +kernel
theorem d_Labels_addRules_18 : decode b_Labels_addRules 18 = .ok (.return_, 1) := by decide +kernel
theorem d_Labels_allRules_0 : decode b_Labels_allRules 0 = .ok (.iconst 0, 1) := by decide +kernel
theorem d_Labels_allRules_1 : decode b_Labels_allRules 1 = .ok (.istore_n 1, 1) := by decide +kernel
theorem d_Labels_allRules_2 : decode b_Labels_allRules 2 = .ok (.iconst 0, 1) := by decide +kernel
theorem d_Labels_allRules_3 : decode b_Labels_allRules 3 = .ok (.istore_n 2, 1) := by decide +kernel
theorem d_Labels_allRules_4 : decode b_Labels_allRules 4 = .ok (.iload_n 2, 1) := by decide +kernel
theorem d_Labels_allRules_5 : decode b_Labels_allRules 5 = .ok (.aload_n 0, 1) := by decide +kernel
theorem d_Labels_allRules_6 : decode b_Labels_allRules 6 = .ok (.getfield 31, 3) := by decide +kernel
theorem d_Labels_allRules_9 : decode b_Labels_allRules 9 = .ok (.if_icmp .ge 18, 3) := by decide +kernel
theorem d_Labels_allRules_12 : decode b_Labels_allRules 12 = .ok (.iload_n 1, 1) := by decide +kernel
theorem d_Labels_allRules_13 : decode b_Labels_allRules 13 = .ok (.aload_n 0, 1) := by decide +kernel
theorem d_Labels_allRules_14 : decode b_Labels_allRules 14 = .ok (.getfield 24, 3) := by decide +kernel
theorem d_Labels_allRules_17 : decode b_Labels_allRules 17 = .ok (.iload_n 2, 1) := by decide +kernel
theorem d_Labels_allRules_18 : decode b_Labels_allRules 18 = .ok (.iaload, 1) := by decide +kernel
theorem d_Labels_allRules_19 : decode b_Labels_allRules 19 = .ok (.ior, 1) := by decide +kernel
theorem d_Labels_allRules_20 : decode b_Labels_allRules 20 = .ok (.istore_n 1, 1) := by decide +kernel
theorem d_Labels_allRules_21 : decode b_Labels_allRules 21 = .ok (.iinc 2 1, 3) := by decide +kernel
theorem d_Labels_allRules_24 : decode b_Labels_allRules 24 = .ok (.goto (-20), 3) := by decide +kernel
theorem d_Labels_allRules_27 : decode b_Labels_allRules 27 = .ok (.iload_n 1, 1) := by decide +kernel
theorem d_Labels_allRules_28 : decode b_Labels_allRules 28 = .ok (.ireturn, 1) := by decide +kernel
theorem d_Labels_copyLabel_0 : decode b_Labels_copyLabel 0 = .ok (.aload_n 2, 1) := by decide +kernel
theorem d_Labels_copyLabel_1 : decode b_Labels_copyLabel 1 = .ok (.invokevirtual 35, 3) := by decide +kernel
theorem d_Labels_copyLabel_4 : decode b_Labels_copyLabel 4 = .ok (.aload_n 0, 1) := by decide +kernel
theorem d_Labels_copyLabel_5 : decode b_Labels_copyLabel 5 = .ok (.iload_n 1, 1) := by decide +kernel
theorem d_Labels_copyLabel_6 : decode b_Labels_copyLabel 6 = .ok (.invokevirtual 46, 3) := by decide +kernel
theorem d_Labels_copyLabel_9 : decode b_Labels_copyLabel 9 = .ok (.ifCond .eq 33, 3) := by decide +kernel
theorem d_Labels_copyLabel_12 : decode b_Labels_copyLabel 12 = .ok (.aload_n 2, 1) := by decide +kernel
theorem d_Labels_copyLabel_13 : decode b_Labels_copyLabel 13 = .ok (.aload_n 0, 1) := by decide +kernel
theorem d_Labels_copyLabel_14 : decode b_Labels_copyLabel 14 = .ok (.getfield 14, 3) := by decide +kernel
theorem d_Labels_copyLabel_17 : decode b_Labels_copyLabel 17 = .ok (.iload_n 1, 1) := by decide +kernel
theorem d_Labels_copyLabel_18 : decode b_Labels_copyLabel 18 = .ok (.ifCond .ne 7, 3) := by decide +kernel
theorem d_Labels_copyLabel_21 : decode b_Labels_copyLabel 21 = .ok (.iconst 0, 1) := by decide +kernel
theorem d_Labels_copyLabel_22 : decode b_Labels_copyLabel 22 = .ok (.goto 11, 3) := by decide +kernel
theorem d_Labels_copyLabel_25 : decode b_Labels_copyLabel 25 = .ok (.aload_n 0, 1) := by decide +kernel
theorem d_Labels_copyLabel_26 : decode b_Labels_copyLabel 26 = .ok (.getfield 20, 3) := by decide +kernel
theorem d_Labels_copyLabel_29 : decode b_Labels_copyLabel 29 = .ok (.iload_n 1, 1) := by decide +kernel
theorem d_Labels_copyLabel_30 : decode b_Labels_copyLabel 30 = .ok (.iconst 1, 1) := by decide +kernel
theorem d_Labels_copyLabel_31 : decode b_Labels_copyLabel 31 = .ok (.isub, 1) := by decide +kernel
theorem d_Labels_copyLabel_32 : decode b_Labels_copyLabel 32 = .ok (.iaload, 1) := by decide +kernel
theorem d_Labels_copyLabel_33 : decode b_Labels_copyLabel 33 = .ok (.aload_n 0, 1) := by decide +kernel
theorem d_Labels_copyLabel_34 : decode b_Labels_copyLabel 34 = .ok (.getfield 20, 3) := by decide +kernel
theorem d_Labels_copyLabel_37 : decode b_Labels_copyLabel 37 = .ok (.iload_n 1, 1) := by decide +kernel
theorem d_Labels_copyLabel_38 : decode b_Labels_copyLabel 38 = .ok (.iaload, 1) := by decide +kernel
theorem d_Labels_copyLabel_39 : decode b_Labels_copyLabel 39 = .ok (.invokevirtual 42, 3) := by decide +kernel
theorem d_Labels_copyLabel_42 : decode b_Labels_copyLabel 42 = .ok (.return_, 1) := by decide +kernel
theorem d_Row_init_0 : decode b_Row_init 0 = .ok (.aload_n 0, 1) := by decide +kernel
theorem d_Row_init_1 : decode b_Row_init 1 = .ok (.invokespecial 3, 3) := by decide +kernel
theorem d_Row_init_4 : decode b_Row_init 4 = .ok (.aload_n 0, 1) := by decide +kernel
theorem d_Row_init_5 : decode b_Row_init 5 = .ok (.iload_n 1, 1) := by decide +kernel
theorem d_Row_init_6 : decode b_Row_init 6 = .ok (.newarray .int, 2) := by decide +kernel
theorem d_Row_init_8 : decode b_Row_init 8 = .ok (.putfield 9, 3) := by decide +kernel
theorem d_Row_init_11 : decode b_Row_init 11 = .ok (.aload_n 0, 1) := by decide +kernel
theorem d_Row_init_12 : decode b_Row_init 12 = .ok (.iconst 0, 1) := by decide +kernel
theorem d_Row_init_13 : decode b_Row_init 13 = .ok (.putfield 15, 3) := by decide +kernel
theorem d_Row_init_16 : decode b_Row_init 16 = .ok (.return_, 1) := by decide +kernel
theorem d_Row_size_0 : decode b_Row_size 0 = .ok (.aload_n 0, 1) := by decide +kernel
theorem d_Row_size_1 : decode b_Row_size 1 = .ok (.getfield 15, 3) := by decide +kernel
theorem d_Row_size_4 : decode b_Row_size 4 = .ok (.ireturn, 1) := by decide +kernel
theorem d_Row_get_0 : decode b_Row_get 0 = .ok (.iload_n 1, 1) := by decide +kernel
theorem d_Row_get_1 : decode b_Row_get 1 = .ok (.ifCond .lt 11, 3) := by decide +kernel
theorem d_Row_get_4 : decode b_Row_get 4 = .ok (.iload_n 1, 1) := by decide +kernel
theorem d_Row_get_5 : decode b_Row_get 5 = .ok (.aload_n 0, 1) := by decide +kernel
theorem d_Row_get_6 : decode b_Row_get 6 = .ok (.getfield 15, 3) := by decide +kernel
theorem d_Row_get_9 : decode b_Row_get 9 = .ok (.if_icmp .lt 7, 3) := by decide +kernel
theorem d_Row_get_12 : decode b_Row_get 12 = .ok (.iconst (-1), 1) := by decide +kernel
theorem d_Row_get_13 : decode b_Row_get 13 = .ok (.goto 9, 3) := by decide +kernel
theorem d_Row_get_16 : decode b_Row_get 16 = .ok (.aload_n 0, 1) := by decide +kernel
theorem d_Row_get_17 : decode b_Row_get 17 = .ok (.getfield 9, 3) := by decide +kernel
theorem d_Row_get_20 : decode b_Row_get 20 = .ok (.iload_n 1, 1) := by decide +kernel
theorem d_Row_get_21 : decode b_Row_get 21 = .ok (.iaload, 1) := by decide +kernel
theorem d_Row_get_22 : decode b_Row_get 22 = .ok (.ireturn, 1) := by decide +kernel
theorem d_Row_set_0 : decode b_Row_set 0 = .ok (.iload_n 1, 1) := by decide +kernel
theorem d_Row_set_1 : decode b_Row_set 1 = .ok (.ifCond .lt 18, 3) := by decide +kernel
theorem d_Row_set_4 : decode b_Row_set 4 = .ok (.iload_n 1, 1) := by decide +kernel
theorem d_Row_set_5 : decode b_Row_set 5 = .ok (.aload_n 0, 1) := by decide +kernel
theorem d_Row_set_6 : decode b_Row_set 6 = .ok (.getfield 15, 3) := by decide +kernel
theorem d_Row_set_9 : decode b_Row_set 9 = .ok (.if_icmp .ge 10, 3) := by decide +kernel
theorem d_Row_set_12 : decode b_Row_set 12 = .ok (.aload_n 0, 1) := by decide +kernel
theorem d_Row_set_13 : decode b_Row_set 13 = .ok (.getfield 9, 3) := by decide +kernel
theorem d_Row_set_16 : decode b_Row_set 16 = .ok (.iload_n 1, 1) := by decide +kernel
theorem d_Row_set_17 : decode b_Row_set 17 = .ok (.iload_n 2, 1) := by decide +kernel
theorem d_Row_set_18 : decode b_Row_set 18 = .ok (.iastore, 1) := by decide +kernel
theorem d_Row_set_19 : decode b_Row_set 19 = .ok (.return_, 1) := by decide +kernel
theorem d_Row_empty_0 : decode b_Row_empty 0 = .ok (.aload_n 0, 1) := by decide +kernel
theorem d_Row_empty_1 : decode b_Row_empty 1 = .ok (.iconst 0, 1) := by decide +kernel
theorem d_Row_empty_2 : decode b_Row_empty 2 = .ok (.putfield 15, 3) := by decide +kernel
theorem d_Row_empty_5 : decode b_Row_empty 5 = .ok (.return_, 1) := by decide +kernel
theorem d_Row_add_0 : decode b_Row_add 0 = .ok (.aload_n 0, 1) := by decide +kernel
theorem d_Row_add_1 : decode b_Row_add 1 = .ok (.getfield 15, 3) := by decide +kernel
theorem d_Row_add_4 : decode b_Row_add 4 = .ok (.aload_n 0, 1) := by decide +kernel
theorem d_Row_add_5 : decode b_Row_add 5 = .ok (.getfield 9, 3) := by decide +kernel
theorem d_Row_add_8 : decode b_Row_add 8 = .ok (.arraylength, 1) := by decide +kernel
theorem d_Row_add_9 : decode b_Row_add 9 = .ok (.if_icmp .lt 5, 3) := by decide +kernel
theorem d_Row_add_12 : decode b_Row_add 12 = .ok (.iconst 0, 1) := by decide +kernel
theorem d_Row_add_13 : decode b_Row_add 13 = .ok (.ireturn, 1) := by decide +kernel
theorem d_Row_add_14 : decode b_Row_add 14 = .ok (.aload_n 0, 1) := by decide +kernel
theorem d_Row_add_15 : decode b_Row_add 15 = .ok (.getfield 9, 3) := by decide +kernel
theorem d_Row_add_18 : decode b_Row_add 18 = .ok (.aload_n 0, 1) := by decide +kernel
theorem d_Row_add_19 : decode b_Row_add 19 = .ok (.getfield 15, 3) := by decide +kernel
theorem d_Row_add_22 : decode b_Row_add 22 = .ok (.iload_n 1, 1) := by decide +kernel
theorem d_Row_add_23 : decode b_Row_add 23 = .ok (.iastore, 1) := by decide +kernel
theorem d_Row_add_24 : decode b_Row_add 24 = .ok (.aload_n 0, 1) := by decide +kernel
theorem d_Row_add_25 : decode b_Row_add 25 = .ok (.dup, 1) := by decide +kernel
theorem d_Row_add_26 : decode b_Row_add 26 = .ok (.getfield 15, 3) := by decide +kernel
theorem d_Row_add_29 : decode b_Row_add 29 = .ok (.iconst 1, 1) := by decide +kernel
theorem d_Row_add_30 : decode b_Row_add 30 = .ok (.iadd, 1) := by decide +kernel
theorem d_Row_add_31 : decode b_Row_add 31 = .ok (.putfield 15, 3) := by decide +kernel
theorem d_Row_add_34 : decode b_Row_add 34 = .ok (.iconst 1, 1) := by decide +kernel
theorem d_Row_add_35 : decode b_Row_add 35 = .ok (.ireturn, 1) := by decide +kernel
theorem d_Row_insert_0 : decode b_Row_insert 0 = .ok (.aload_n 0, 1) := by decide +kernel
theorem d_Row_insert_1 : decode b_Row_insert 1 = .ok (.getfield 15, 3) := by decide +kernel
theorem d_Row_insert_4 : decode b_Row_insert 4 = .ok (.aload_n 0, 1) := by decide +kernel
theorem d_Row_insert_5 : decode b_Row_insert 5 = .ok (.getfield 9, 3) := by decide +kernel
theorem d_Row_insert_8 : decode b_Row_insert 8 = .ok (.arraylength, 1) := by decide +kernel
theorem d_Row_insert_9 : decode b_Row_insert 9 = .ok (.if_icmp .ge 15, 3) := by decide +kernel
theorem d_Row_insert_12 : decode b_Row_insert 12 = .ok (.iload_n 1, 1) := by decide +kernel
theorem d_Row_insert_13 : decode b_Row_insert 13 = .ok (.ifCond .lt 11, 3) := by decide +kernel
theorem d_Row_insert_16 : decode b_Row_insert 16 = .ok (.iload_n 1, 1) := by decide +kernel
theorem d_Row_insert_17 : decode b_Row_insert 17 = .ok (.aload_n 0, 1) := by decide +kernel
theorem d_Row_insert_18 : decode b_Row_insert 18 = .ok (.getfield 15, 3) := by decide +kernel
theorem d_Row_insert_21 : decode b_Row_insert 21 = .ok (.if_icmp .le 5, 3) := by decide +kernel
theorem d_Row_insert_24 : decode b_Row_insert 24 = .ok (.iconst 0, 1) := by decide +kernel
theorem d_Row_insert_25 : decode b_Row_insert 25 = .ok (.ireturn, 1) := by decide +kernel
theorem d_Row_insert_26 : decode b_Row_insert 26 = .ok (.aload_n 0, 1) := by decide +kernel
theorem d_Row_insert_27 : decode b_Row_insert 27 = .ok (.getfield 15, 3) := by decide +kernel
theorem d_Row_insert_30 : decode b_Row_insert 30 = .ok (.istore_n 3, 1) := by decide +kernel
theorem d_Row_insert_31 : decode b_Row_insert 31 = .ok (.iload_n 3, 1) := by decide +kernel
theorem d_Row_insert_32 : decode b_Row_insert 32 = .ok (.iload_n 1, 1) := by decide +kernel
theorem d_Row_insert_33 : decode b_Row_insert 33 = .ok (.if_icmp .le 23, 3) := by decide +kernel
theorem d_Row_insert_36 : decode b_Row_insert 36 = .ok (.aload_n 0, 1) := by decide +kernel
theorem d_Row_insert_37 : decode b_Row_insert 37 = .ok (.getfield 9, 3) := by decide +kernel
theorem d_Row_insert_40 : decode b_Row_insert 40 = .ok (.iload_n 3, 1) := by decide +kernel
theorem d_Row_insert_41 : decode b_Row_insert 41 = .ok (.aload_n 0, 1) := by decide +kernel
theorem d_Row_insert_42 : decode b_Row_insert 42 = .ok (.getfield 9, 3) := by decide +kernel
theorem d_Row_insert_45 : decode b_Row_insert 45 = .ok (.iload_n 3, 1) := by decide +kernel
theorem d_Row_insert_46 : decode b_Row_insert 46 = .ok (.iconst 1, 1) := by decide +kernel
theorem d_Row_insert_47 : decode b_Row_insert 47 = .ok (.isub, 1) := by decide +kernel
theorem d_Row_insert_48 : decode b_Row_insert 48 = .ok (.iaload, 1) := by decide +kernel
theorem d_Row_insert_49 : decode b_Row_insert 49 = .ok (.iastore, 1) := by decide +kernel
theorem d_Row_insert_50 : decode b_Row_insert 50 = .ok (.iinc 3 ( -1), 3) := by decide +kernel
theorem d_Row_insert_53 : decode b_Row_insert 53 = .ok (.goto (-22), 3) := by decide +kernel
theorem d_Row_insert_56 : decode b_Row_insert 56 = .ok (.aload_n 0, 1) := by decide +kernel
theorem d_Row_insert_57 : decode b_Row_insert 57 = .ok (.getfield 9, 3) := by decide +kernel
theorem d_Row_insert_60 : decode b_Row_insert 60 = .ok (.iload_n 1, 1) := by decide +kernel
theorem d_Row_insert_61 : decode b_Row_insert 61 = .ok (.iload_n 2, 1) := by decide +kernel
theorem d_Row_insert_62 : decode b_Row_insert 62 = .ok (.iastore, 1) := by decide +kernel
theorem d_Row_insert_63 : decode b_Row_insert 63 = .ok (.aload_n 0, 1) := by decide +kernel
theorem d_Row_insert_64 : decode b_Row_insert 64 = .ok (.dup, 1) := by decide +kernel
theorem d_Row_insert_65 : decode b_Row_insert 65 = .ok (.getfield 15, 3) := by decide +kernel
theorem d_Row_insert_68 : decode b_Row_insert 68 = .ok (.iconst 1, 1) := by decide +kernel
theorem d_Row_insert_69 : decode b_Row_insert 69 = .ok (.iadd, 1) := by decide +kernel
theorem d_Row_insert_70 : decode b_Row_insert 70 = .ok (.putfield 15, 3) := by decide +kernel
theorem d_Row_insert_73 : decode b_Row_insert 73 = .ok (.iconst 1, 1) := by decide +kernel
theorem d_Row_insert_74 : decode b_Row_insert 74 = .ok (.ireturn, 1) := by decide +kernel
theorem d_Row_addPart_0 : decode b_Row_addPart 0 = .ok (.iload_n 2, 1) := by decide +kernel
theorem d_Row_addPart_1 : decode b_Row_addPart 1 = .ok (.istore 4, 2) := by decide +kernel
theorem d_Row_addPart_3 : decode b_Row_addPart 3 = .ok (.iload 4, 2) := by decide +kernel
theorem d_Row_addPart_5 : decode b_Row_addPart 5 = .ok (.iload_n 3, 1) := by decide +kernel
theorem d_Row_addPart_6 : decode b_Row_addPart 6 = .ok (.if_icmp .ge 20, 3) := by decide +kernel
theorem d_Row_addPart_9 : decode b_Row_addPart 9 = .ok (.aload_n 0, 1) := by decide +kernel
theorem d_Row_addPart_10 : decode b_Row_addPart 10 = .ok (.aload_n 1, 1) := by decide +kernel
theorem d_Row_addPart_11 : decode b_Row_addPart 11 = .ok (.iload 4, 2) := by decide +kernel
theorem d_Row_addPart_13 : decode b_Row_addPart 13 = .ok (.invokevirtual 19, 3) := by decide +kernel
theorem d_Row_addPart_16 : decode b_Row_addPart 16 = .ok (.invokevirtual 23, 3) := by decide +kernel
theorem d_Row_addPart_19 : decode b_Row_addPart 19 = .ok (.pop, 1) := by decide +kernel
theorem d_Row_addPart_20 : decode b_Row_addPart 20 = .ok (.iinc 4 1, 3) := by decide +kernel
theorem d_Row_addPart_23 : decode b_Row_addPart 23 = .ok (.goto (-20), 3) := by decide +kernel
theorem d_Row_addPart_26 : decode b_Row_addPart 26 = .ok (.return_, 1) := by decide +kernel
theorem d_Row_hasAbove_0 : decode b_Row_hasAbove 0 = .ok (.iconst 0, 1) := by decide +kernel
theorem d_Row_hasAbove_1 : decode b_Row_hasAbove 1 = .ok (.istore_n 2, 1) := by decide +kernel
theorem d_Row_hasAbove_2 : decode b_Row_hasAbove 2 = .ok (.iload_n 2, 1) := by decide +kernel
theorem d_Row_hasAbove_3 : decode b_Row_hasAbove 3 = .ok (.aload_n 0, 1) := by decide +kernel
theorem d_Row_hasAbove_4 : decode b_Row_hasAbove 4 = .ok (.getfield 15, 3) := by decide +kernel
theorem d_Row_hasAbove_7 : decode b_Row_hasAbove 7 = .ok (.if_icmp .ge 21, 3) := by decide +kernel
theorem d_Row_hasAbove_10 : decode b_Row_hasAbove 10 = .ok (.aload_n 0, 1) := by decide +kernel
theorem d_Row_hasAbove_11 : decode b_Row_hasAbove 11 = .ok (.getfield 9, 3) := by decide +kernel
theorem d_Row_hasAbove_14 : decode b_Row_hasAbove 14 = .ok (.iload_n 2, 1) := by decide +kernel
theorem d_Row_hasAbove_15 : decode b_Row_hasAbove 15 = .ok (.iaload, 1) := by decide +kernel
theorem d_Row_hasAbove_16 : decode b_Row_hasAbove 16 = .ok (.iload_n 1, 1) := by decide +kernel
theorem d_Row_hasAbove_17 : decode b_Row_hasAbove 17 = .ok (.if_icmp .le 5, 3) := by decide +kernel
theorem d_Row_hasAbove_20 : decode b_Row_hasAbove 20 = .ok (.iconst 1, 1) := by decide +kernel
theorem d_Row_hasAbove_21 : decode b_Row_hasAbove 21 = .ok (.ireturn, 1) := by decide +kernel
theorem d_Row_hasAbove_22 : decode b_Row_hasAbove 22 = .ok (.iinc 2 1, 3) := by decide +kernel
theorem d_Row_hasAbove_25 : decode b_Row_hasAbove 25 = .ok (.goto (-23), 3) := by decide +kernel
theorem d_Row_hasAbove_28 : decode b_Row_hasAbove 28 = .ok (.iconst 0, 1) := by decide +kernel
theorem d_Row_hasAbove_29 : decode b_Row_hasAbove 29 = .ok (.ireturn, 1) := by decide +kernel
theorem d_Row_isSameAs_0 : decode b_Row_isSameAs 0 = .ok (.aload_n 0, 1) := by decide +kernel
theorem d_Row_isSameAs_1 : decode b_Row_isSameAs 1 = .ok (.getfield 15, 3) := by decide +kernel
theorem d_Row_isSameAs_4 : decode b_Row_isSameAs 4 = .ok (.aload_n 1, 1) := by decide +kernel
theorem d_Row_isSameAs_5 : decode b_Row_isSameAs 5 = .ok (.invokevirtual 27, 3) := by decide +kernel
theorem d_Row_isSameAs_8 : decode b_Row_isSameAs 8 = .ok (.if_icmp .eq 5, 3) := by decide +kernel
theorem d_Row_isSameAs_11 : decode b_Row_isSameAs 11 = .ok (.iconst 0, 1) := by decide +kernel
theorem d_Row_isSameAs_12 : decode b_Row_isSameAs 12 = .ok (.ireturn, 1) := by decide +kernel
theorem d_Row_isSameAs_13 : decode b_Row_isSameAs 13 = .ok (.iconst 0, 1) := by decide +kernel
theorem d_Row_isSameAs_14 : decode b_Row_isSameAs 14 = .ok (.istore_n 2, 1) := by decide +kernel
theorem d_Row_isSameAs_15 : decode b_Row_isSameAs 15 = .ok (.iload_n 2, 1) := by decide +kernel
theorem d_Row_isSameAs_16 : decode b_Row_isSameAs 16 = .ok (.aload_n 0, 1) := by decide +kernel
theorem d_Row_isSameAs_17 : decode b_Row_isSameAs 17 = .ok (.getfield 15, 3) := by decide +kernel
theorem d_Row_isSameAs_20 : decode b_Row_isSameAs 20 = .ok (.if_icmp .ge 25, 3) := by decide +kernel
theorem d_Row_isSameAs_23 : decode b_Row_isSameAs 23 = .ok (.aload_n 0, 1) := by decide +kernel
theorem d_Row_isSameAs_24 : decode b_Row_isSameAs 24 = .ok (.getfield 9, 3) := by decide +kernel
theorem d_Row_isSameAs_27 : decode b_Row_isSameAs 27 = .ok (.iload_n 2, 1) := by decide +kernel
theorem d_Row_isSameAs_28 : decode b_Row_isSameAs 28 = .ok (.iaload, 1) := by decide +kernel
theorem d_Row_isSameAs_29 : decode b_Row_isSameAs 29 = .ok (.aload_n 1, 1) := by decide +kernel
theorem d_Row_isSameAs_30 : decode b_Row_isSameAs 30 = .ok (.iload_n 2, 1) := by decide +kernel
theorem d_Row_isSameAs_31 : decode b_Row_isSameAs 31 = .ok (.invokevirtual 19, 3) := by decide +kernel
theorem d_Row_isSameAs_34 : decode b_Row_isSameAs 34 = .ok (.if_icmp .eq 5, 3) := by decide +kernel
theorem d_Row_isSameAs_37 : decode b_Row_isSameAs 37 = .ok (.iconst 0, 1) := by decide +kernel
theorem d_Row_isSameAs_38 : decode b_Row_isSameAs 38 = .ok (.ireturn, 1) := by decide +kernel
theorem d_Row_isSameAs_39 : decode b_Row_isSameAs 39 = .ok (.iinc 2 1, 3) := by decide +kernel
theorem d_Row_isSameAs_42 : decode b_Row_isSameAs 42 = .ok (.goto (-27), 3) := by decide +kernel
theorem d_Row_isSameAs_45 : decode b_Row_isSameAs 45 = .ok (.iconst 1, 1) := by decide +kernel
theorem d_Row_isSameAs_46 : decode b_Row_isSameAs 46 = .ok (.ireturn, 1) := by decide +kernel
theorem d_Math_max_0 : decode b_Math_max 0 = .ok (.iload_n 0, 1) := by decide +kernel
theorem d_Math_max_1 : decode b_Math_max 1 = .ok (.iload_n 1, 1) := by decide +kernel
theorem d_Math_max_2 : decode b_Math_max 2 = .ok (.if_icmp .lt 7, 3) := by decide +kernel
theorem d_Math_max_5 : decode b_Math_max 5 = .ok (.iload_n 0, 1) := by decide +kernel
theorem d_Math_max_6 : decode b_Math_max 6 = .ok (.goto 4, 3) := by decide +kernel
theorem d_Math_max_9 : decode b_Math_max 9 = .ok (.iload_n 1, 1) := by decide +kernel
theorem d_Math_max_10 : decode b_Math_max 10 = .ok (.ireturn, 1) := by decide +kernel
theorem d_Math_min_0 : decode b_Math_min 0 = .ok (.iload_n 0, 1) := by decide +kernel
theorem d_Math_min_1 : decode b_Math_min 1 = .ok (.iload_n 1, 1) := by decide +kernel
theorem d_Math_min_2 : decode b_Math_min 2 = .ok (.if_icmp .gt 7, 3) := by decide +kernel
theorem d_Math_min_5 : decode b_Math_min 5 = .ok (.iload_n 0, 1) := by decide +kernel
theorem d_Math_min_6 : decode b_Math_min 6 = .ok (.goto 4, 3) := by decide +kernel
theorem d_Math_min_9 : decode b_Math_min 9 = .ok (.iload_n 1, 1) := by decide +kernel
theorem d_Math_min_10 : decode b_Math_min 10 = .ok (.ireturn, 1) := by decide +kernel
end
section
theorem d_Composer_init_0 : decode b_Composer_init 0 = .ok (.aload_n 0, 1) := by decide +kernel
theorem d_Composer_init_1 : decode b_Composer_init 1 = .ok (.invokespecial 3, 3) := by decide +kernel
theorem d_Composer_init_4 : decode b_Composer_init 4 = .ok (.aload_n 0, 1) := by decide +kernel
theorem d_Composer_init_5 : decode b_Composer_init 5 = .ok (.new 9, 3) := by decide +kernel
theorem d_Composer_init_8 : decode b_Composer_init 8 = .ok (.dup, 1) := by decide +kernel
theorem d_Composer_init_9 : decode b_Composer_init 9 = .ok (.bipush 96, 2) := by decide +kernel
theorem d_Composer_init_11 : decode b_Composer_init 11 = .ok (.invokespecial 11, 3) := by decide +kernel
theorem d_Composer_init_14 : decode b_Composer_init 14 = .ok (.putfield 14, 3) := by decide +kernel
theorem d_Composer_init_17 : decode b_Composer_init 17 = .ok (.return_, 1) := by decide +kernel
theorem d_Composer_form_0 : decode b_Composer_form 0 = .ok (.aload_n 0, 1) := by decide +kernel
theorem d_Composer_form_1 : decode b_Composer_form 1 = .ok (.aload_n 1, 1) := by decide +kernel
theorem d_Composer_form_2 : decode b_Composer_form 2 = .ok (.invokevirtual 20, 3) := by decide +kernel
theorem d_Composer_form_5 : decode b_Composer_form 5 = .ok (.aload_n 0, 1) := by decide +kernel
theorem d_Composer_form_6 : decode b_Composer_form 6 = .ok (.invokevirtual 24, 3) := by decide +kernel
theorem d_Composer_form_9 : decode b_Composer_form 9 = .ok (.aload_n 0, 1) := by decide +kernel
theorem d_Composer_form_10 : decode b_Composer_form 10 = .ok (.aload_n 2, 1) := by decide +kernel
theorem d_Composer_form_11 : decode b_Composer_form 11 = .ok (.invokevirtual 27, 3) := by decide +kernel
theorem d_Composer_form_14 : decode b_Composer_form 14 = .ok (.return_, 1) := by decide +kernel
theorem d_Composer_takeApart_0 : decode b_Composer_takeApart 0 = .ok (.aload_n 0, 1) := by decide +kernel
theorem d_Composer_takeApart_1 : decode b_Composer_takeApart 1 = .ok (.getfield 14, 3) := by decide +kernel
theorem d_Composer_takeApart_4 : decode b_Composer_takeApart 4 = .ok (.invokevirtual 30, 3) := by decide +kernel
theorem d_Composer_takeApart_7 : decode b_Composer_takeApart 7 = .ok (.iconst 0, 1) := by decide +kernel
theorem d_Composer_takeApart_8 : decode b_Composer_takeApart 8 = .ok (.istore_n 2, 1) := by decide +kernel
theorem d_Composer_takeApart_9 : decode b_Composer_takeApart 9 = .ok (.iload_n 2, 1) := by decide +kernel
theorem d_Composer_takeApart_10 : decode b_Composer_takeApart 10 = .ok (.aload_n 1, 1) := by decide +kernel
theorem d_Composer_takeApart_11 : decode b_Composer_takeApart 11 = .ok (.invokevirtual 33, 3) := by decide +kernel
theorem d_Composer_takeApart_14 : decode b_Composer_takeApart 14 = .ok (.if_icmp .ge 67, 3) := by decide +kernel
theorem d_Composer_takeApart_17 : decode b_Composer_takeApart 17 = .ok (.aload_n 1, 1) := by decide +kernel
theorem d_Composer_takeApart_18 : decode b_Composer_takeApart 18 = .ok (.iload_n 2, 1) := by decide +kernel
theorem d_Composer_takeApart_19 : decode b_Composer_takeApart 19 = .ok (.invokevirtual 37, 3) := by decide +kernel
theorem d_Composer_takeApart_22 : decode b_Composer_takeApart 22 = .ok (.istore_n 3, 1) := by decide +kernel
theorem d_Composer_takeApart_23 : decode b_Composer_takeApart 23 = .ok (.iload_n 3, 1) := by decide +kernel
theorem d_Composer_takeApart_24 : decode b_Composer_takeApart 24 = .ok (.invokestatic 41, 3) := by decide +kernel
theorem d_Composer_takeApart_27 : decode b_Composer_takeApart 27 = .ok (.istore 4, 2) := by decide +kernel
theorem d_Composer_takeApart_29 : decode b_Composer_takeApart 29 = .ok (.iload 4, 2) := by decide +kernel
theorem d_Composer_takeApart_31 : decode b_Composer_takeApart 31 = .ok (.iconst (-1), 1) := by decide +kernel
theorem d_Composer_takeApart_32 : decode b_Composer_takeApart 32 = .ok (.if_icmp .ne 15, 3) := by decide +kernel
theorem d_Composer_takeApart_35 : decode b_Composer_takeApart 35 = .ok (.aload_n 0, 1) := by decide +kernel
theorem d_Composer_takeApart_36 : decode b_Composer_takeApart 36 = .ok (.getfield 14, 3) := by decide +kernel
theorem d_Composer_takeApart_39 : decode b_Composer_takeApart 39 = .ok (.iload_n 3, 1) := by decide +kernel
theorem d_Composer_takeApart_40 : decode b_Composer_takeApart 40 = .ok (.invokevirtual 44, 3) := by decide +kernel
theorem d_Composer_takeApart_43 : decode b_Composer_takeApart 43 = .ok (.pop, 1) := by decide +kernel
theorem d_Composer_takeApart_44 : decode b_Composer_takeApart 44 = .ok (.goto 31, 3) := by decide +kernel
theorem d_Composer_takeApart_47 : decode b_Composer_takeApart 47 = .ok (.aload_n 0, 1) := by decide +kernel
theorem d_Composer_takeApart_48 : decode b_Composer_takeApart 48 = .ok (.getfield 14, 3) := by decide +kernel
theorem d_Composer_takeApart_51 : decode b_Composer_takeApart 51 = .ok (.getstatic 48, 3) := by decide +kernel
theorem d_Composer_takeApart_54 : decode b_Composer_takeApart 54 = .ok (.iload 4, 2) := by decide +kernel
theorem d_Composer_takeApart_56 : decode b_Composer_takeApart 56 = .ok (.iaload, 1) := by decide +kernel
theorem d_Composer_takeApart_57 : decode b_Composer_takeApart 57 = .ok (.invokevirtual 44, 3) := by decide +kernel
theorem d_Composer_takeApart_60 : decode b_Composer_takeApart 60 = .ok (.pop, 1) := by decide +kernel
theorem d_Composer_takeApart_61 : decode b_Composer_takeApart 61 = .ok (.aload_n 0, 1) := by decide +kernel
theorem d_Composer_takeApart_62 : decode b_Composer_takeApart 62 = .ok (.getfield 14, 3) := by decide +kernel
theorem d_Composer_takeApart_65 : decode b_Composer_takeApart 65 = .ok (.getstatic 52, 3) := by decide +kernel
theorem d_Composer_takeApart_68 : decode b_Composer_takeApart 68 = .ok (.iload 4, 2) := by decide +kernel
theorem d_Composer_takeApart_70 : decode b_Composer_takeApart 70 = .ok (.iaload, 1) := by decide +kernel
theorem d_Composer_takeApart_71 : decode b_Composer_takeApart 71 = .ok (.invokevirtual 44, 3) := by decide +kernel
theorem d_Composer_takeApart_74 : decode b_Composer_takeApart 74 = .ok (.pop, 1) := by decide +kernel
theorem d_Composer_takeApart_75 : decode b_Composer_takeApart 75 = .ok (.iinc 2 1, 3) := by decide +kernel
theorem d_Composer_takeApart_78 : decode b_Composer_takeApart 78 = .ok (.goto (-69), 3) := by decide +kernel
theorem d_Composer_takeApart_81 : decode b_Composer_takeApart 81 = .ok (.return_, 1) := by decide +kernel
theorem d_Composer_pairOfCode_0 : decode b_Composer_pairOfCode 0 = .ok (.iconst 0, 1) := by decide +kernel
theorem d_Composer_pairOfCode_1 : decode b_Composer_pairOfCode 1 = .ok (.istore_n 1, 1) := by decide +kernel
theorem d_Composer_pairOfCode_2 : decode b_Composer_pairOfCode 2 = .ok (.iload_n 1, 1) := by decide +kernel
theorem d_Composer_pairOfCode_3 : decode b_Composer_pairOfCode 3 = .ok (.getstatic 55, 3) := by decide +kernel
theorem d_Composer_pairOfCode_6 : decode b_Composer_pairOfCode 6 = .ok (.arraylength, 1) := by decide +kernel
theorem d_Composer_pairOfCode_7 : decode b_Composer_pairOfCode 7 = .ok (.if_icmp .ge 20, 3) := by decide +kernel
theorem d_Composer_pairOfCode_10 : decode b_Composer_pairOfCode 10 = .ok (.getstatic 55, 3) := by decide +kernel
theorem d_Composer_pairOfCode_13 : decode b_Composer_pairOfCode 13 = .ok (.iload_n 1, 1) := by decide +kernel
theorem d_Composer_pairOfCode_14 : decode b_Composer_pairOfCode 14 = .ok (.iaload, 1) := by decide +kernel
theorem d_Composer_pairOfCode_15 : decode b_Composer_pairOfCode 15 = .ok (.iload_n 0, 1) := by decide +kernel
theorem d_Composer_pairOfCode_16 : decode b_Composer_pairOfCode 16 = .ok (.if_icmp .ne 5, 3) := by decide +kernel
theorem d_Composer_pairOfCode_19 : decode b_Composer_pairOfCode 19 = .ok (.iload_n 1, 1) := by decide +kernel
theorem d_Composer_pairOfCode_20 : decode b_Composer_pairOfCode 20 = .ok (.ireturn, 1) := by decide +kernel
theorem d_Composer_pairOfCode_21 : decode b_Composer_pairOfCode 21 = .ok (.iinc 1 1, 3) := by decide +kernel
theorem d_Composer_pairOfCode_24 : decode b_Composer_pairOfCode 24 = .ok (.goto (-22), 3) := by decide +kernel
theorem d_Composer_pairOfCode_27 : decode b_Composer_pairOfCode 27 = .ok (.iconst (-1), 1) := by decide +kernel
theorem d_Composer_pairOfCode_28 : decode b_Composer_pairOfCode 28 = .ok (.ireturn, 1) := by decide +kernel
theorem d_Composer_sortMarks_0 : decode b_Composer_sortMarks 0 = .ok (.iconst 1, 1) := by decide +kernel
theorem d_Composer_sortMarks_1 : decode b_Composer_sortMarks 1 = .ok (.istore_n 1, 1) := by decide +kernel
theorem d_Composer_sortMarks_2 : decode b_Composer_sortMarks 2 = .ok (.iload_n 1, 1) := by decide +kernel
theorem d_Composer_sortMarks_3 : decode b_Composer_sortMarks 3 = .ok (.aload_n 0, 1) := by decide +kernel
theorem d_Composer_sortMarks_4 : decode b_Composer_sortMarks 4 = .ok (.getfield 14, 3) := by decide +kernel
theorem d_Composer_sortMarks_7 : decode b_Composer_sortMarks 7 = .ok (.invokevirtual 33, 3) := by decide +kernel
theorem d_Composer_sortMarks_10 : decode b_Composer_sortMarks 10 = .ok (.if_icmp .ge 96, 3) := by decide +kernel
theorem d_Composer_sortMarks_13 : decode b_Composer_sortMarks 13 = .ok (.aload_n 0, 1) := by decide +kernel
theorem d_Composer_sortMarks_14 : decode b_Composer_sortMarks 14 = .ok (.getfield 14, 3) := by decide +kernel
theorem d_Composer_sortMarks_17 : decode b_Composer_sortMarks 17 = .ok (.iload_n 1, 1) := by decide +kernel
theorem d_Composer_sortMarks_18 : decode b_Composer_sortMarks 18 = .ok (.invokevirtual 37, 3) := by decide +kernel
theorem d_Composer_sortMarks_21 : decode b_Composer_sortMarks 21 = .ok (.istore_n 2, 1) := by decide +kernel
theorem d_Composer_sortMarks_22 : decode b_Composer_sortMarks 22 = .ok (.iload_n 2, 1) := by decide +kernel
theorem d_Composer_sortMarks_23 : decode b_Composer_sortMarks 23 = .ok (.invokestatic 58, 3) := by decide +kernel
theorem d_Composer_sortMarks_26 : decode b_Composer_sortMarks 26 = .ok (.istore_n 3, 1) := by decide +kernel
theorem d_Composer_sortMarks_27 : decode b_Composer_sortMarks 27 = .ok (.iload_n 1, 1) := by decide +kernel
theorem d_Composer_sortMarks_28 : decode b_Composer_sortMarks 28 = .ok (.istore 4, 2) := by decide +kernel
theorem d_Composer_sortMarks_30 : decode b_Composer_sortMarks 30 = .ok (.iload_n 1, 1) := by decide +kernel
theorem d_Composer_sortMarks_31 : decode b_Composer_sortMarks 31 = .ok (.iconst 1, 1) := by decide +kernel
theorem d_Composer_sortMarks_32 : decode b_Composer_sortMarks 32 = .ok (.isub, 1) := by decide +kernel
theorem d_Composer_sortMarks_33 : decode b_Composer_sortMarks 33 = .ok (.istore 5, 2) := by decide +kernel
theorem d_Composer_sortMarks_35 : decode b_Composer_sortMarks 35 = .ok (.iload 5, 2) := by decide +kernel
theorem d_Composer_sortMarks_37 : decode b_Composer_sortMarks 37 = .ok (.ifCond .lt 53, 3) := by decide +kernel
theorem d_Composer_sortMarks_40 : decode b_Composer_sortMarks 40 = .ok (.iload_n 3, 1) := by decide +kernel
theorem d_Composer_sortMarks_41 : decode b_Composer_sortMarks 41 = .ok (.ifCond .le 49, 3) := by decide +kernel
theorem d_Composer_sortMarks_44 : decode b_Composer_sortMarks 44 = .ok (.aload_n 0, 1) := by decide +kernel
theorem d_Composer_sortMarks_45 : decode b_Composer_sortMarks 45 = .ok (.getfield 14, 3) := by decide +kernel
theorem d_Composer_sortMarks_48 : decode b_Composer_sortMarks 48 = .ok (.iload 5, 2) := by decide +kernel
theorem d_Composer_sortMarks_50 : decode b_Composer_sortMarks 50 = .ok (.invokevirtual 37, 3) := by decide +kernel
theorem d_Composer_sortMarks_53 : decode b_Composer_sortMarks 53 = .ok (.invokestatic 58, 3) := by decide +kernel
theorem d_Composer_sortMarks_56 : decode b_Composer_sortMarks 56 = .ok (.iload_n 3, 1) := by decide +kernel
theorem d_Composer_sortMarks_57 : decode b_Composer_sortMarks 57 = .ok (.if_icmp .le 33, 3) := by decide +kernel
theorem d_Composer_sortMarks_60 : decode b_Composer_sortMarks 60 = .ok (.aload_n 0, 1) := by decide +kernel
theorem d_Composer_sortMarks_61 : decode b_Composer_sortMarks 61 = .ok (.getfield 14, 3) := by decide +kernel
theorem d_Composer_sortMarks_64 : decode b_Composer_sortMarks 64 = .ok (.iload 5, 2) := by decide +kernel
theorem d_Composer_sortMarks_66 : decode b_Composer_sortMarks 66 = .ok (.iconst 1, 1) := by decide +kernel
theorem d_Composer_sortMarks_67 : decode b_Composer_sortMarks 67 = .ok (.iadd, 1) := by decide +kernel
theorem d_Composer_sortMarks_68 : decode b_Composer_sortMarks 68 = .ok (.aload_n 0, 1) := by decide +kernel
theorem d_Composer_sortMarks_69 : decode b_Composer_sortMarks 69 = .ok (.getfield 14, 3) := by decide +kernel
theorem d_Composer_sortMarks_72 : decode b_Composer_sortMarks 72 = .ok (.iload 5, 2) := by decide +kernel
theorem d_Composer_sortMarks_74 : decode b_Composer_sortMarks 74 = .ok (.invokevirtual 37, 3) := by decide +kernel
theorem d_Composer_sortMarks_77 : decode b_Composer_sortMarks 77 = .ok (.invokevirtual 63, 3) := by decide +kernel
theorem d_Composer_sortMarks_80 : decode b_Composer_sortMarks 80 = .ok (.iload 5, 2) := by decide +kernel
theorem d_Composer_sortMarks_82 : decode b_Composer_sortMarks 82 = .ok (.istore 4, 2) := by decide +kernel
theorem d_Composer_sortMarks_84 : decode b_Composer_sortMarks 84 = .ok (.iinc 5 ( -1), 3) := by decide +kernel
theorem d_Composer_sortMarks_87 : decode b_Composer_sortMarks 87 = .ok (.goto (-52), 3) := by decide +kernel
theorem d_Composer_sortMarks_90 : decode b_Composer_sortMarks 90 = .ok (.aload_n 0, 1) := by decide +kernel
theorem d_Composer_sortMarks_91 : decode b_Composer_sortMarks 91 = .ok (.getfield 14, 3) := by decide +kernel
theorem d_Composer_sortMarks_94 : decode b_Composer_sortMarks 94 = .ok (.iload 4, 2) := by decide +kernel
theorem d_Composer_sortMarks_96 : decode b_Composer_sortMarks 96 = .ok (.iload_n 2, 1) := by decide +kernel
theorem d_Composer_sortMarks_97 : decode b_Composer_sortMarks 97 = .ok (.invokevirtual 63, 3) := by decide +kernel
theorem d_Composer_sortMarks_100 : decode b_Composer_sortMarks 100 = .ok (.iinc 1 1, 3) := by decide +kernel
theorem d_Composer_sortMarks_103 : decode b_Composer_sortMarks 103 = .ok (.goto (-101), 3) := by decide +kernel
theorem d_Composer_sortMarks_106 : decode b_Composer_sortMarks 106 = .ok (.return_, 1) := by decide +kernel
theorem d_Composer_join_0 : decode b_Composer_join 0 = .ok (.aload_n 1, 1) := by decide +kernel
theorem d_Composer_join_1 : decode b_Composer_join 1 = .ok (.invokevirtual 30, 3) := by decide +kernel
theorem d_Composer_join_4 : decode b_Composer_join 4 = .ok (.iconst (-1), 1) := by decide +kernel
theorem d_Composer_join_5 : decode b_Composer_join 5 = .ok (.istore_n 2, 1) := by decide +kernel
theorem d_Composer_join_6 : decode b_Composer_join 6 = .ok (.iconst 0, 1) := by decide +kernel
theorem d_Composer_join_7 : decode b_Composer_join 7 = .ok (.istore_n 3, 1) := by decide +kernel
theorem d_Composer_join_8 : decode b_Composer_join 8 = .ok (.iload_n 3, 1) := by decide +kernel
theorem d_Composer_join_9 : decode b_Composer_join 9 = .ok (.aload_n 0, 1) := by decide +kernel
theorem d_Composer_join_10 : decode b_Composer_join 10 = .ok (.getfield 14, 3) := by decide +kernel
theorem d_Composer_join_13 : decode b_Composer_join 13 = .ok (.invokevirtual 33, 3) := by decide +kernel
theorem d_Composer_join_16 : decode b_Composer_join 16 = .ok (.if_icmp .ge 121, 3) := by decide +kernel
theorem d_Composer_join_19 : decode b_Composer_join 19 = .ok (.aload_n 0, 1) := by decide +kernel
theorem d_Composer_join_20 : decode b_Composer_join 20 = .ok (.getfield 14, 3) := by decide +kernel
theorem d_Composer_join_23 : decode b_Composer_join 23 = .ok (.iload_n 3, 1) := by decide +kernel
theorem d_Composer_join_24 : decode b_Composer_join 24 = .ok (.invokevirtual 37, 3) := by decide +kernel
theorem d_Composer_join_27 : decode b_Composer_join 27 = .ok (.istore 4, 2) := by decide +kernel
theorem d_Composer_join_29 : decode b_Composer_join 29 = .ok (.iload 4, 2) := by decide +kernel
theorem d_Composer_join_31 : decode b_Composer_join 31 = .ok (.invokestatic 58, 3) := by decide +kernel
theorem d_Composer_join_34 : decode b_Composer_join 34 = .ok (.istore 5, 2) := by decide +kernel
theorem d_Composer_join_36 : decode b_Composer_join 36 = .ok (.aload_n 1, 1) := by decide +kernel
theorem d_Composer_join_37 : decode b_Composer_join 37 = .ok (.invokevirtual 33, 3) := by decide +kernel
theorem d_Composer_join_40 : decode b_Composer_join 40 = .ok (.iconst 1, 1) := by decide +kernel
theorem d_Composer_join_41 : decode b_Composer_join 41 = .ok (.isub, 1) := by decide +kernel
theorem d_Composer_join_42 : decode b_Composer_join 42 = .ok (.iload_n 2, 1) := by decide +kernel
theorem d_Composer_join_43 : decode b_Composer_join 43 = .ok (.if_icmp .ne 7, 3) := by decide +kernel
theorem d_Composer_join_46 : decode b_Composer_join 46 = .ok (.iconst 0, 1) := by decide +kernel
theorem d_Composer_join_47 : decode b_Composer_join 47 = .ok (.goto 16, 3) := by decide +kernel
theorem d_Composer_join_50 : decode b_Composer_join 50 = .ok (.aload_n 1, 1) := by decide +kernel
theorem d_Composer_join_51 : decode b_Composer_join 51 = .ok (.aload_n 1, 1) := by decide +kernel
theorem d_Composer_join_52 : decode b_Composer_join 52 = .ok (.invokevirtual 33, 3) := by decide +kernel
theorem d_Composer_join_55 : decode b_Composer_join 55 = .ok (.iconst 1, 1) := by decide +kernel
theorem d_Composer_join_56 : decode b_Composer_join 56 = .ok (.isub, 1) := by decide +kernel
theorem d_Composer_join_57 : decode b_Composer_join 57 = .ok (.invokevirtual 37, 3) := by decide +kernel
theorem d_Composer_join_60 : decode b_Composer_join 60 = .ok (.invokestatic 58, 3) := by decide +kernel
theorem d_Composer_join_63 : decode b_Composer_join 63 = .ok (.istore 6, 2) := by decide +kernel
theorem d_Composer_join_65 : decode b_Composer_join 65 = .ok (.iload 6, 2) := by decide +kernel
theorem d_Composer_join_67 : decode b_Composer_join 67 = .ok (.iload 5, 2) := by decide +kernel
theorem d_Composer_join_69 : decode b_Composer_join 69 = .ok (.if_icmp .ge 16, 3) := by decide +kernel
theorem d_Composer_join_72 : decode b_Composer_join 72 = .ok (.aload_n 1, 1) := by decide +kernel
theorem d_Composer_join_73 : decode b_Composer_join 73 = .ok (.iload_n 2, 1) := by decide +kernel
theorem d_Composer_join_74 : decode b_Composer_join 74 = .ok (.invokevirtual 37, 3) := by decide +kernel
theorem d_Composer_join_77 : decode b_Composer_join 77 = .ok (.iload 4, 2) := by decide +kernel
theorem d_Composer_join_79 : decode b_Composer_join 79 = .ok (.invokestatic 67, 3) := by decide +kernel
theorem d_Composer_join_82 : decode b_Composer_join 82 = .ok (.goto 4, 3) := by decide +kernel
theorem d_Composer_join_85 : decode b_Composer_join 85 = .ok (.iconst (-1), 1) := by decide +kernel
theorem d_Composer_join_86 : decode b_Composer_join 86 = .ok (.istore 7, 2) := by decide +kernel
theorem d_Composer_join_88 : decode b_Composer_join 88 = .ok (.iload 7, 2) := by decide +kernel
theorem d_Composer_join_90 : decode b_Composer_join 90 = .ok (.iconst (-1), 1) := by decide +kernel
theorem d_Composer_join_91 : decode b_Composer_join 91 = .ok (.if_icmp .eq 17, 3) := by decide +kernel
theorem d_Composer_join_94 : decode b_Composer_join 94 = .ok (.aload_n 1, 1) := by decide +kernel
theorem d_Composer_join_95 : decode b_Composer_join 95 = .ok (.iload_n 2, 1) := by decide +kernel
theorem d_Composer_join_96 : decode b_Composer_join 96 = .ok (.getstatic 55, 3) := by decide +kernel
theorem d_Composer_join_99 : decode b_Composer_join 99 = .ok (.iload 7, 2) := by decide +kernel
theorem d_Composer_join_101 : decode b_Composer_join 101 = .ok (.iaload, 1) := by decide +kernel
theorem d_Composer_join_102 : decode b_Composer_join 102 = .ok (.invokevirtual 63, 3) := by decide +kernel
theorem d_Composer_join_105 : decode b_Composer_join 105 = .ok (.goto 26, 3) := by decide +kernel
theorem d_Composer_join_108 : decode b_Composer_join 108 = .ok (.aload_n 1, 1) := by decide +kernel
theorem d_Composer_join_109 : decode b_Composer_join 109 = .ok (.iload 4, 2) := by decide +kernel
theorem d_Composer_join_111 : decode b_Composer_join 111 = .ok (.invokevirtual 44, 3) := by decide +kernel
theorem d_Composer_join_114 : decode b_Composer_join 114 = .ok (.pop, 1) := by decide +kernel
theorem d_Composer_join_115 : decode b_Composer_join 115 = .ok (.iload 5, 2) := by decide +kernel
theorem d_Composer_join_117 : decode b_Composer_join 117 = .ok (.ifCond .le 7, 3) := by decide +kernel
theorem d_Composer_join_120 : decode b_Composer_join 120 = .ok (.iload_n 2, 1) := by decide +kernel
theorem d_Composer_join_121 : decode b_Composer_join 121 = .ok (.goto 9, 3) := by decide +kernel
theorem d_Composer_join_124 : decode b_Composer_join 124 = .ok (.aload_n 1, 1) := by decide +kernel
theorem d_Composer_join_125 : decode b_Composer_join 125 = .ok (.invokevirtual 33, 3) := by decide +kernel
theorem d_Composer_join_128 : decode b_Composer_join 128 = .ok (.iconst 1, 1) := by decide +kernel
theorem d_Composer_join_129 : decode b_Composer_join 129 = .ok (.isub, 1) := by decide +kernel
theorem d_Composer_join_130 : decode b_Composer_join 130 = .ok (.istore_n 2, 1) := by decide +kernel
theorem d_Composer_join_131 : decode b_Composer_join 131 = .ok (.iinc 3 1, 3) := by decide +kernel
theorem d_Composer_join_134 : decode b_Composer_join 134 = .ok (.goto (-126), 3) := by decide +kernel
theorem d_Composer_join_137 : decode b_Composer_join 137 = .ok (.return_, 1) := by decide +kernel
theorem d_Composer_pairOfParts_0 : decode b_Composer_pairOfParts 0 = .ok (.iconst 0, 1) := by decide +kernel
theorem d_Composer_pairOfParts_1 : decode b_Composer_pairOfParts 1 = .ok (.istore_n 2, 1) := by decide +kernel
theorem d_Composer_pairOfParts_2 : decode b_Composer_pairOfParts 2 = .ok (.iload_n 2, 1) := by decide +kernel
theorem d_Composer_pairOfParts_3 : decode b_Composer_pairOfParts 3 = .ok (.getstatic 55, 3) := by decide +kernel
theorem d_Composer_pairOfParts_6 : decode b_Composer_pairOfParts 6 = .ok (.arraylength, 1) := by decide +kernel
theorem d_Composer_pairOfParts_7 : decode b_Composer_pairOfParts 7 = .ok (.if_icmp .ge 29, 3) := by decide +kernel
theorem d_Composer_pairOfParts_10 : decode b_Composer_pairOfParts 10 = .ok (.getstatic 48, 3) := by decide +kernel
theorem d_Composer_pairOfParts_13 : decode b_Composer_pairOfParts 13 = .ok (.iload_n 2, 1) := by decide +kernel
theorem d_Composer_pairOfParts_14 : decode b_Composer_pairOfParts 14 = .ok (.iaload, 1) := by decide +kernel
theorem d_Composer_pairOfParts_15 : decode b_Composer_pairOfParts 15 = .ok (.iload_n 0, 1) := by decide +kernel
theorem d_Composer_pairOfParts_16 : decode b_Composer_pairOfParts 16 = .ok (.if_icmp .ne 14, 3) := by decide +kernel
theorem d_Composer_pairOfParts_19 : decode b_Composer_pairOfParts 19 = .ok (.getstatic 52, 3) := by decide +kernel
theorem d_Composer_pairOfParts_22 : decode b_Composer_pairOfParts 22 = .ok (.iload_n 2, 1) := by decide +kernel
theorem d_Composer_pairOfParts_23 : decode b_Composer_pairOfParts 23 = .ok (.iaload, 1) := by decide +kernel
theorem d_Composer_pairOfParts_24 : decode b_Composer_pairOfParts 24 = .ok (.iload_n 1, 1) := by decide +kernel
theorem d_Composer_pairOfParts_25 : decode b_Composer_pairOfParts 25 = .ok (.if_icmp .ne 5, 3) := by decide +kernel
theorem d_Composer_pairOfParts_28 : decode b_Composer_pairOfParts 28 = .ok (.iload_n 2, 1) := by decide +kernel
theorem d_Composer_pairOfParts_29 : decode b_Composer_pairOfParts 29 = .ok (.ireturn, 1) := by decide +kernel
theorem d_Composer_pairOfParts_30 : decode b_Composer_pairOfParts 30 = .ok (.iinc 2 1, 3) := by decide +kernel
theorem d_Composer_pairOfParts_33 : decode b_Composer_pairOfParts 33 = .ok (.goto (-31), 3) := by decide +kernel
theorem d_Composer_pairOfParts_36 : decode b_Composer_pairOfParts 36 = .ok (.iconst (-1), 1) := by decide +kernel
theorem d_Composer_pairOfParts_37 : decode b_Composer_pairOfParts 37 = .ok (.ireturn, 1) := by decide +kernel
theorem d_Packer_init_0 : decode b_Packer_init 0 = .ok (.aload_n 0, 1) := by decide +kernel
theorem d_Packer_init_1 : decode b_Packer_init 1 = .ok (.invokespecial 3, 3) := by decide +kernel
theorem d_Packer_init_4 : decode b_Packer_init 4 = .ok (.aload_n 0, 1) := by decide +kernel
theorem d_Packer_init_5 : decode b_Packer_init 5 = .ok (.bipush 72, 2) := by decide +kernel
theorem d_Packer_init_7 : decode b_Packer_init 7 = .ok (.putfield 11, 3) := by decide +kernel
theorem d_Packer_init_10 : decode b_Packer_init 10 = .ok (.aload_n 0, 1) := by decide +kernel
theorem d_Packer_init_11 : decode b_Packer_init 11 = .ok (.iconst 0, 1) := by decide +kernel
theorem d_Packer_init_12 : decode b_Packer_init 12 = .ok (.putfield 15, 3) := by decide +kernel
theorem d_Packer_init_15 : decode b_Packer_init 15 = .ok (.return_, 1) := by decide +kernel
theorem d_Packer_write_0 : decode b_Packer_write 0 = .ok (.aload_n 1, 1) := by decide +kernel
theorem d_Packer_write_1 : decode b_Packer_write 1 = .ok (.aload_n 2, 1) := by decide +kernel
theorem d_Packer_write_2 : decode b_Packer_write 2 = .ok (.invokestatic 18, 3) := by decide +kernel
theorem d_Packer_write_5 : decode b_Packer_write 5 = .ok (.istore_n 3, 1) := by decide +kernel
theorem d_Packer_write_6 : decode b_Packer_write 6 = .ok (.iload_n 3, 1) := by decide +kernel
theorem d_Packer_write_7 : decode b_Packer_write 7 = .ok (.istore 4, 2) := by decide +kernel
theorem d_Packer_write_9 : decode b_Packer_write 9 = .ok (.sipush 128, 3) := by decide +kernel
theorem d_Packer_write_12 : decode b_Packer_write 12 = .ok (.istore 5, 2) := by decide +kernel
theorem d_Packer_write_14 : decode b_Packer_write 14 = .ok (.iconst 0, 1) := by decide +kernel
theorem d_Packer_write_15 : decode b_Packer_write 15 = .ok (.istore 6, 2) := by decide +kernel
theorem d_Packer_write_17 : decode b_Packer_write 17 = .ok (.aload_n 0, 1) := by decide +kernel
theorem d_Packer_write_18 : decode b_Packer_write 18 = .ok (.bipush 72, 2) := by decide +kernel
theorem d_Packer_write_20 : decode b_Packer_write 20 = .ok (.putfield 11, 3) := by decide +kernel
theorem d_Packer_write_23 : decode b_Packer_write 23 = .ok (.iconst 0, 1) := by decide +kernel
theorem d_Packer_write_24 : decode b_Packer_write 24 = .ok (.istore 7, 2) := by decide +kernel
theorem d_Packer_write_26 : decode b_Packer_write 26 = .ok (.iload 7, 2) := by decide +kernel
theorem d_Packer_write_28 : decode b_Packer_write 28 = .ok (.aload_n 1, 1) := by decide +kernel
theorem d_Packer_write_29 : decode b_Packer_write 29 = .ok (.invokevirtual 22, 3) := by decide +kernel
theorem d_Packer_write_32 : decode b_Packer_write 32 = .ok (.if_icmp .ge 131, 3) := by decide +kernel
theorem d_Packer_write_35 : decode b_Packer_write 35 = .ok (.iload 4, 2) := by decide +kernel
theorem d_Packer_write_37 : decode b_Packer_write 37 = .ok (.aload_n 1, 1) := by decide +kernel
theorem d_Packer_write_38 : decode b_Packer_write 38 = .ok (.invokevirtual 22, 3) := by decide +kernel
theorem d_Packer_write_41 : decode b_Packer_write 41 = .ok (.if_icmp .ge 122, 3) := by decide +kernel
theorem d_Packer_write_44 : decode b_Packer_write 44 = .ok (.aload_n 1, 1) := by decide +kernel
theorem d_Packer_write_45 : decode b_Packer_write 45 = .ok (.iload 5, 2) := by decide +kernel
theorem d_Packer_write_47 : decode b_Packer_write 47 = .ok (.invokestatic 28, 3) := by decide +kernel
theorem d_Packer_write_50 : decode b_Packer_write 50 = .ok (.istore 8, 2) := by decide +kernel
theorem d_Packer_write_52 : decode b_Packer_write 52 = .ok (.iload 6, 2) := by decide +kernel
theorem d_Packer_write_54 : decode b_Packer_write 54 = .ok (.iload 8, 2) := by decide +kernel
theorem d_Packer_write_56 : decode b_Packer_write 56 = .ok (.iload 5, 2) := by decide +kernel
theorem d_Packer_write_58 : decode b_Packer_write 58 = .ok (.isub, 1) := by decide +kernel
theorem d_Packer_write_59 : decode b_Packer_write 59 = .ok (.iload 4, 2) := by decide +kernel
theorem d_Packer_write_61 : decode b_Packer_write 61 = .ok (.iconst 1, 1) := by decide +kernel
theorem d_Packer_write_62 : decode b_Packer_write 62 = .ok (.iadd, 1) := by decide +kernel
theorem d_Packer_write_63 : decode b_Packer_write 63 = .ok (.imul, 1) := by decide +kernel
theorem d_Packer_write_64 : decode b_Packer_write 64 = .ok (.iadd, 1) := by decide +kernel
theorem d_Packer_write_65 : decode b_Packer_write 65 = .ok (.istore 6, 2) := by decide +kernel
theorem d_Packer_write_67 : decode b_Packer_write 67 = .ok (.iload 8, 2) := by decide +kernel
theorem d_Packer_write_69 : decode b_Packer_write 69 = .ok (.istore 5, 2) := by decide +kernel
theorem d_Packer_write_71 : decode b_Packer_write 71 = .ok (.iconst 0, 1) := by decide +kernel
theorem d_Packer_write_72 : decode b_Packer_write 72 = .ok (.istore 9, 2) := by decide +kernel
theorem d_Packer_write_74 : decode b_Packer_write 74 = .ok (.iload 9, 2) := by decide +kernel
theorem d_Packer_write_76 : decode b_Packer_write 76 = .ok (.aload_n 1, 1) := by decide +kernel
theorem d_Packer_write_77 : decode b_Packer_write 77 = .ok (.invokevirtual 22, 3) := by decide +kernel
theorem d_Packer_write_80 : decode b_Packer_write 80 = .ok (.if_icmp .ge 71, 3) := by decide +kernel
theorem d_Packer_write_83 : decode b_Packer_write 83 = .ok (.aload_n 1, 1) := by decide +kernel
theorem d_Packer_write_84 : decode b_Packer_write 84 = .ok (.iload 9, 2) := by decide +kernel
theorem d_Packer_write_86 : decode b_Packer_write 86 = .ok (.invokevirtual 32, 3) := by decide +kernel
theorem d_Packer_write_89 : decode b_Packer_write 89 = .ok (.istore 10, 2) := by decide +kernel
theorem d_Packer_write_91 : decode b_Packer_write 91 = .ok (.iload 10, 2) := by decide +kernel
theorem d_Packer_write_93 : decode b_Packer_write 93 = .ok (.iload 5, 2) := by decide +kernel
theorem d_Packer_write_95 : decode b_Packer_write 95 = .ok (.if_icmp .ge 9, 3) := by decide +kernel
theorem d_Packer_write_98 : decode b_Packer_write 98 = .ok (.iinc 6 1, 3) := by decide +kernel
theorem d_Packer_write_101 : decode b_Packer_write 101 = .ok (.goto 44, 3) := by decide +kernel
theorem d_Packer_write_104 : decode b_Packer_write 104 = .ok (.iload 10, 2) := by decide +kernel
theorem d_Packer_write_106 : decode b_Packer_write 106 = .ok (.iload 5, 2) := by decide +kernel
theorem d_Packer_write_108 : decode b_Packer_write 108 = .ok (.if_icmp .ne 37, 3) := by decide +kernel
theorem d_Packer_write_111 : decode b_Packer_write 111 = .ok (.aload_n 0, 1) := by decide +kernel
theorem d_Packer_write_112 : decode b_Packer_write 112 = .ok (.iload 6, 2) := by decide +kernel
theorem d_Packer_write_114 : decode b_Packer_write 114 = .ok (.aload_n 2, 1) := by decide +kernel
theorem d_Packer_write_115 : decode b_Packer_write 115 = .ok (.invokevirtual 36, 3) := by decide +kernel
theorem d_Packer_write_118 : decode b_Packer_write 118 = .ok (.aload_n 0, 1) := by decide +kernel
theorem d_Packer_write_119 : decode b_Packer_write 119 = .ok (.iload 6, 2) := by decide +kernel
theorem d_Packer_write_121 : decode b_Packer_write 121 = .ok (.iload 4, 2) := by decide +kernel
theorem d_Packer_write_123 : decode b_Packer_write 123 = .ok (.iconst 1, 1) := by decide +kernel
theorem d_Packer_write_124 : decode b_Packer_write 124 = .ok (.iadd, 1) := by decide +kernel
theorem d_Packer_write_125 : decode b_Packer_write 125 = .ok (.iload 4, 2) := by decide +kernel
theorem d_Packer_write_127 : decode b_Packer_write 127 = .ok (.iload_n 3, 1) := by decide +kernel
theorem d_Packer_write_128 : decode b_Packer_write 128 = .ok (.if_icmp .ne 7, 3) := by decide +kernel
theorem d_Packer_write_131 : decode b_Packer_write 131 = .ok (.iconst 1, 1) := by decide +kernel
theorem d_Packer_write_132 : decode b_Packer_write 132 = .ok (.goto 4, 3) := by decide +kernel
theorem d_Packer_write_135 : decode b_Packer_write 135 = .ok (.iconst 0, 1) := by decide +kernel
theorem d_Packer_write_136 : decode b_Packer_write 136 = .ok (.invokevirtual 40, 3) := by decide +kernel
theorem d_Packer_write_139 : decode b_Packer_write 139 = .ok (.iconst 0, 1) := by decide +kernel
theorem d_Packer_write_140 : decode b_Packer_write 140 = .ok (.istore 6, 2) := by decide +kernel
theorem d_Packer_write_142 : decode b_Packer_write 142 = .ok (.iinc 4 1, 3) := by decide +kernel
theorem d_Packer_write_145 : decode b_Packer_write 145 = .ok (.iinc 9 1, 3) := by decide +kernel
theorem d_Packer_write_148 : decode b_Packer_write 148 = .ok (.goto (-74), 3) := by decide +kernel
theorem d_Packer_write_151 : decode b_Packer_write 151 = .ok (.iinc 6 1, 3) := by decide +kernel
theorem d_Packer_write_154 : decode b_Packer_write 154 = .ok (.iinc 5 1, 3) := by decide +kernel
theorem d_Packer_write_157 : decode b_Packer_write 157 = .ok (.iinc 7 1, 3) := by decide +kernel
theorem d_Packer_write_160 : decode b_Packer_write 160 = .ok (.goto (-134), 3) := by decide +kernel
theorem d_Packer_write_163 : decode b_Packer_write 163 = .ok (.return_, 1) := by decide +kernel
theorem d_Packer_writeBasic_0 : decode b_Packer_writeBasic 0 = .ok (.iconst 0, 1) := by decide +kernel
theorem d_Packer_writeBasic_1 : decode b_Packer_writeBasic 1 = .ok (.istore_n 2, 1) := by decide +kernel
theorem d_Packer_writeBasic_2 : decode b_Packer_writeBasic 2 = .ok (.iconst 0, 1) := by decide +kernel
theorem d_Packer_writeBasic_3 : decode b_Packer_writeBasic 3 = .ok (.istore_n 3, 1) := by decide +kernel
theorem d_Packer_writeBasic_4 : decode b_Packer_writeBasic 4 = .ok (.iload_n 3, 1) := by decide +kernel
theorem d_Packer_writeBasic_5 : decode b_Packer_writeBasic 5 = .ok (.aload_n 0, 1) := by decide +kernel
theorem d_Packer_writeBasic_6 : decode b_Packer_writeBasic 6 = .ok (.invokevirtual 22, 3) := by decide +kernel
theorem d_Packer_writeBasic_9 : decode b_Packer_writeBasic 9 = .ok (.if_icmp .ge 33, 3) := by decide +kernel
theorem d_Packer_writeBasic_12 : decode b_Packer_writeBasic 12 = .ok (.aload_n 0, 1) := by decide +kernel
theorem d_Packer_writeBasic_13 : decode b_Packer_writeBasic 13 = .ok (.iload_n 3, 1) := by decide +kernel
theorem d_Packer_writeBasic_14 : decode b_Packer_writeBasic 14 = .ok (.invokevirtual 32, 3) := by decide +kernel
theorem d_Packer_writeBasic_17 : decode b_Packer_writeBasic 17 = .ok (.sipush 128, 3) := by decide +kernel
theorem d_Packer_writeBasic_20 : decode b_Packer_writeBasic 20 = .ok (.if_icmp .ge 16, 3) := by decide +kernel
theorem d_Packer_writeBasic_23 : decode b_Packer_writeBasic 23 = .ok (.aload_n 1, 1) := by decide +kernel
theorem d_Packer_writeBasic_24 : decode b_Packer_writeBasic 24 = .ok (.aload_n 0, 1) := by decide +kernel
theorem d_Packer_writeBasic_25 : decode b_Packer_writeBasic 25 = .ok (.iload_n 3, 1) := by decide +kernel
theorem d_Packer_writeBasic_26 : decode b_Packer_writeBasic 26 = .ok (.invokevirtual 32, 3) := by decide +kernel
theorem d_Packer_writeBasic_29 : decode b_Packer_writeBasic 29 = .ok (.invokevirtual 44, 3) := by decide +kernel
theorem d_Packer_writeBasic_32 : decode b_Packer_writeBasic 32 = .ok (.pop, 1) := by decide +kernel
theorem d_Packer_writeBasic_33 : decode b_Packer_writeBasic 33 = .ok (.iinc 2 1, 3) := by decide +kernel
theorem d_Packer_writeBasic_36 : decode b_Packer_writeBasic 36 = .ok (.iinc 3 1, 3) := by decide +kernel
theorem d_Packer_writeBasic_39 : decode b_Packer_writeBasic 39 = .ok (.goto (-35), 3) := by decide +kernel
theorem d_Packer_writeBasic_42 : decode b_Packer_writeBasic 42 = .ok (.iload_n 2, 1) := by decide +kernel
theorem d_Packer_writeBasic_43 : decode b_Packer_writeBasic 43 = .ok (.ifCond .le 10, 3) := by decide +kernel
theorem d_Packer_writeBasic_46 : decode b_Packer_writeBasic 46 = .ok (.aload_n 1, 1) := by decide +kernel
theorem d_Packer_writeBasic_47 : decode b_Packer_writeBasic 47 = .ok (.bipush 45, 2) := by decide +kernel
theorem d_Packer_writeBasic_49 : decode b_Packer_writeBasic 49 = .ok (.invokevirtual 44, 3) := by decide +kernel
theorem d_Packer_writeBasic_52 : decode b_Packer_writeBasic 52 = .ok (.pop, 1) := by decide +kernel
theorem d_Packer_writeBasic_53 : decode b_Packer_writeBasic 53 = .ok (.iload_n 2, 1) := by decide +kernel
theorem d_Packer_writeBasic_54 : decode b_Packer_writeBasic 54 = .ok (.ireturn, 1) := by decide +kernel
theorem d_Packer_leastFrom_0 : decode b_Packer_leastFrom 0 = .ok (.ldc 48, 2) := by decide +kernel
theorem d_Packer_leastFrom_2 : decode b_Packer_leastFrom 2 = .ok (.istore_n 2, 1) := by decide +kernel
theorem d_Packer_leastFrom_3 : decode b_Packer_leastFrom 3 = .ok (.iconst 0, 1) := by decide +kernel
theorem d_Packer_leastFrom_4 : decode b_Packer_leastFrom 4 = .ok (.istore_n 3, 1) := by decide +kernel
theorem d_Packer_leastFrom_5 : decode b_Packer_leastFrom 5 = .ok (.iload_n 3, 1) := by decide +kernel
theorem d_Packer_leastFrom_6 : decode b_Packer_leastFrom 6 = .ok (.aload_n 0, 1) := by decide +kernel
theorem d_Packer_leastFrom_7 : decode b_Packer_leastFrom 7 = .ok (.invokevirtual 22, 3) := by decide +kernel
theorem d_Packer_leastFrom_10 : decode b_Packer_leastFrom 10 = .ok (.if_icmp .ge 33, 3) := by decide +kernel
theorem d_Packer_leastFrom_13 : decode b_Packer_leastFrom 13 = .ok (.aload_n 0, 1) := by decide +kernel
theorem d_Packer_leastFrom_14 : decode b_Packer_leastFrom 14 = .ok (.iload_n 3, 1) := by decide +kernel
theorem d_Packer_leastFrom_15 : decode b_Packer_leastFrom 15 = .ok (.invokevirtual 32, 3) := by decide +kernel
theorem d_Packer_leastFrom_18 : decode b_Packer_leastFrom 18 = .ok (.iload_n 1, 1) := by decide +kernel
theorem d_Packer_leastFrom_19 : decode b_Packer_leastFrom 19 = .ok (.if_icmp .lt 18, 3) := by decide +kernel
theorem d_Packer_leastFrom_22 : decode b_Packer_leastFrom 22 = .ok (.aload_n 0, 1) := by decide +kernel
theorem d_Packer_leastFrom_23 : decode b_Packer_leastFrom 23 = .ok (.iload_n 3, 1) := by decide +kernel
theorem d_Packer_leastFrom_24 : decode b_Packer_leastFrom 24 = .ok (.invokevirtual 32, 3) := by decide +kernel
theorem d_Packer_leastFrom_27 : decode b_Packer_leastFrom 27 = .ok (.iload_n 2, 1) := by decide +kernel
theorem d_Packer_leastFrom_28 : decode b_Packer_leastFrom 28 = .ok (.if_icmp .ge 9, 3) := by decide +kernel
theorem d_Packer_leastFrom_31 : decode b_Packer_leastFrom 31 = .ok (.aload_n 0, 1) := by decide +kernel
theorem d_Packer_leastFrom_32 : decode b_Packer_leastFrom 32 = .ok (.iload_n 3, 1) := by decide +kernel
theorem d_Packer_leastFrom_33 : decode b_Packer_leastFrom 33 = .ok (.invokevirtual 32, 3) := by decide +kernel
theorem d_Packer_leastFrom_36 : decode b_Packer_leastFrom 36 = .ok (.istore_n 2, 1) := by decide +kernel
theorem d_Packer_leastFrom_37 : decode b_Packer_leastFrom 37 = .ok (.iinc 3 1, 3) := by decide +kernel
theorem d_Packer_leastFrom_40 : decode b_Packer_leastFrom 40 = .ok (.goto (-35), 3) := by decide +kernel
theorem d_Packer_leastFrom_43 : decode b_Packer_leastFrom 43 = .ok (.iload_n 2, 1) := by decide +kernel
theorem d_Packer_leastFrom_44 : decode b_Packer_leastFrom 44 = .ok (.ireturn, 1) := by decide +kernel
theorem d_Packer_threshold_0 : decode b_Packer_threshold 0 = .ok (.iconst 1, 1) := by decide +kernel
theorem d_Packer_threshold_1 : decode b_Packer_threshold 1 = .ok (.bipush 26, 2) := by decide +kernel
theorem d_Packer_threshold_3 : decode b_Packer_threshold 3 = .ok (.bipush 36, 2) := by decide +kernel
theorem d_Packer_threshold_5 : decode b_Packer_threshold 5 = .ok (.iload_n 1, 1) := by decide +kernel
theorem d_Packer_threshold_6 : decode b_Packer_threshold 6 = .ok (.iconst 1, 1) := by decide +kernel
theorem d_Packer_threshold_7 : decode b_Packer_threshold 7 = .ok (.iadd, 1) := by decide +kernel
theorem d_Packer_threshold_8 : decode b_Packer_threshold 8 = .ok (.imul, 1) := by decide +kernel
theorem d_Packer_threshold_9 : decode b_Packer_threshold 9 = .ok (.aload_n 0, 1) := by decide +kernel
theorem d_Packer_threshold_10 : decode b_Packer_threshold 10 = .ok (.getfield 11, 3) := by decide +kernel
theorem d_Packer_threshold_13 : decode b_Packer_threshold 13 = .ok (.isub, 1) := by decide +kernel
theorem d_Packer_threshold_14 : decode b_Packer_threshold 14 = .ok (.invokestatic 49, 3) := by decide +kernel
theorem d_Packer_threshold_17 : decode b_Packer_threshold 17 = .ok (.invokestatic 55, 3) := by decide +kernel
theorem d_Packer_threshold_20 : decode b_Packer_threshold 20 = .ok (.ireturn, 1) := by decide +kernel
theorem d_Packer_writeNumber_0 : decode b_Packer_writeNumber 0 = .ok (.iload_n 1, 1) := by decide +kernel
theorem d_Packer_writeNumber_1 : decode b_Packer_writeNumber 1 = .ok (.istore_n 3, 1) := by decide +kernel
theorem d_Packer_writeNumber_2 : decode b_Packer_writeNumber 2 = .ok (.iconst 0, 1) := by decide +kernel
theorem d_Packer_writeNumber_3 : decode b_Packer_writeNumber 3 = .ok (.istore 4, 2) := by decide +kernel
theorem d_Packer_writeNumber_5 : decode b_Packer_writeNumber 5 = .ok (.iload 4, 2) := by decide +kernel
theorem d_Packer_writeNumber_7 : decode b_Packer_writeNumber 7 = .ok (.bipush 100, 2) := by decide +kernel
theorem d_Packer_writeNumber_9 : decode b_Packer_writeNumber 9 = .ok (.if_icmp .ge 58, 3) := by decide +kernel
theorem d_Packer_writeNumber_12 : decode b_Packer_writeNumber 12 = .ok (.aload_n 0, 1) := by decide +kernel
theorem d_Packer_writeNumber_13 : decode b_Packer_writeNumber 13 = .ok (.iload 4, 2) := by decide +kernel
theorem d_Packer_writeNumber_15 : decode b_Packer_writeNumber 15 = .ok (.invokevirtual 58, 3) := by decide +kernel
theorem d_Packer_writeNumber_18 : decode b_Packer_writeNumber 18 = .ok (.istore 5, 2) := by decide +kernel
theorem d_Packer_writeNumber_20 : decode b_Packer_writeNumber 20 = .ok (.iload_n 3, 1) := by decide +kernel
theorem d_Packer_writeNumber_21 : decode b_Packer_writeNumber 21 = .ok (.iload 5, 2) := by decide +kernel
theorem d_Packer_writeNumber_23 : decode b_Packer_writeNumber 23 = .ok (.if_icmp .ge 6, 3) := by decide +kernel
theorem d_Packer_writeNumber_26 : decode b_Packer_writeNumber 26 = .ok (.goto 41, 3) := by decide +kernel
theorem d_Packer_writeNumber_29 : decode b_Packer_writeNumber 29 = .ok (.aload_n 2, 1) := by decide +kernel
theorem d_Packer_writeNumber_30 : decode b_Packer_writeNumber 30 = .ok (.iload 5, 2) := by decide +kernel
theorem d_Packer_writeNumber_32 : decode b_Packer_writeNumber 32 = .ok (.iload_n 3, 1) := by decide +kernel
theorem d_Packer_writeNumber_33 : decode b_Packer_writeNumber 33 = .ok (.iload 5, 2) := by decide +kernel
theorem d_Packer_writeNumber_35 : decode b_Packer_writeNumber 35 = .ok (.isub, 1) := by decide +kernel
theorem d_Packer_writeNumber_36 : decode b_Packer_writeNumber 36 = .ok (.bipush 36, 2) := by decide +kernel
theorem d_Packer_writeNumber_38 : decode b_Packer_writeNumber 38 = .ok (.iload 5, 2) := by decide +kernel
theorem d_Packer_writeNumber_40 : decode b_Packer_writeNumber 40 = .ok (.isub, 1) := by decide +kernel
theorem d_Packer_writeNumber_41 : decode b_Packer_writeNumber 41 = .ok (.irem, 1) := by decide +kernel
theorem d_Packer_writeNumber_42 : decode b_Packer_writeNumber 42 = .ok (.iadd, 1) := by decide +kernel
theorem d_Packer_writeNumber_43 : decode b_Packer_writeNumber 43 = .ok (.invokestatic 61, 3) := by decide +kernel
theorem d_Packer_writeNumber_46 : decode b_Packer_writeNumber 46 = .ok (.invokevirtual 44, 3) := by decide +kernel
theorem d_Packer_writeNumber_49 : decode b_Packer_writeNumber 49 = .ok (.pop, 1) := by decide +kernel
theorem d_Packer_writeNumber_50 : decode b_Packer_writeNumber 50 = .ok (.iload_n 3, 1) := by decide +kernel
theorem d_Packer_writeNumber_51 : decode b_Packer_writeNumber 51 = .ok (.iload 5, 2) := by decide +kernel
theorem d_Packer_writeNumber_53 : decode b_Packer_writeNumber 53 = .ok (.isub, 1) := by decide +kernel
theorem d_Packer_writeNumber_54 : decode b_Packer_writeNumber 54 = .ok (.bipush 36, 2) := by decide +kernel
theorem d_Packer_writeNumber_56 : decode b_Packer_writeNumber 56 = .ok (.iload 5, 2) := by decide +kernel
theorem d_Packer_writeNumber_58 : decode b_Packer_writeNumber 58 = .ok (.isub, 1) := by decide +kernel
theorem d_Packer_writeNumber_59 : decode b_Packer_writeNumber 59 = .ok (.idiv, 1) := by decide +kernel
theorem d_Packer_writeNumber_60 : decode b_Packer_writeNumber 60 = .ok (.istore_n 3, 1) := by decide +kernel
theorem d_Packer_writeNumber_61 : decode b_Packer_writeNumber 61 = .ok (.iinc 4 1, 3) := by decide +kernel
theorem d_Packer_writeNumber_64 : decode b_Packer_writeNumber 64 = .ok (.goto (-59), 3) := by decide +kernel
theorem d_Packer_writeNumber_67 : decode b_Packer_writeNumber 67 = .ok (.aload_n 2, 1) := by decide +kernel
theorem d_Packer_writeNumber_68 : decode b_Packer_writeNumber 68 = .ok (.iload_n 3, 1) := by decide +kernel
theorem d_Packer_writeNumber_69 : decode b_Packer_writeNumber 69 = .ok (.invokestatic 61, 3) := by decide +kernel
theorem d_Packer_writeNumber_72 : decode b_Packer_writeNumber 72 = .ok (.invokevirtual 44, 3) := by decide +kernel
theorem d_Packer_writeNumber_75 : decode b_Packer_writeNumber 75 = .ok (.pop, 1) := by decide +kernel
theorem d_Packer_writeNumber_76 : decode b_Packer_writeNumber 76 = .ok (.return_, 1) := by decide +kernel
theorem d_Packer_codeOfDigit_0 : decode b_Packer_codeOfDigit 0 = .ok (.iload_n 0, 1) := by decide +kernel
theorem d_Packer_codeOfDigit_1 : decode b_Packer_codeOfDigit 1 = .ok (.bipush 26, 2) := by decide +kernel
theorem d_Packer_codeOfDigit_3 : decode b_Packer_codeOfDigit 3 = .ok (.if_icmp .ge 10, 3) := by decide +kernel
theorem d_Packer_codeOfDigit_6 : decode b_Packer_codeOfDigit 6 = .ok (.bipush 97, 2) := by decide +kernel
theorem d_Packer_codeOfDigit_8 : decode b_Packer_codeOfDigit 8 = .ok (.iload_n 0, 1) := by decide +kernel
theorem d_Packer_codeOfDigit_9 : decode b_Packer_codeOfDigit 9 = .ok (.iadd, 1) := by decide +kernel
theorem d_Packer_codeOfDigit_10 : decode b_Packer_codeOfDigit 10 = .ok (.goto 10, 3) := by decide +kernel
theorem d_Packer_codeOfDigit_13 : decode b_Packer_codeOfDigit 13 = .ok (.bipush 48, 2) := by decide +kernel
theorem d_Packer_codeOfDigit_15 : decode b_Packer_codeOfDigit 15 = .ok (.iload_n 0, 1) := by decide +kernel
theorem d_Packer_codeOfDigit_16 : decode b_Packer_codeOfDigit 16 = .ok (.iadd, 1) := by decide +kernel
theorem d_Packer_codeOfDigit_17 : decode b_Packer_codeOfDigit 17 = .ok (.bipush 26, 2) := by decide +kernel
theorem d_Packer_codeOfDigit_19 : decode b_Packer_codeOfDigit 19 = .ok (.isub, 1) := by decide +kernel
theorem d_Packer_codeOfDigit_20 : decode b_Packer_codeOfDigit 20 = .ok (.ireturn, 1) := by decide +kernel
theorem d_Packer_digitOfCode_0 : decode b_Packer_digitOfCode 0 = .ok (.iload_n 0, 1) := by decide +kernel
theorem d_Packer_digitOfCode_1 : decode b_Packer_digitOfCode 1 = .ok (.bipush 97, 2) := by decide +kernel
theorem d_Packer_digitOfCode_3 : decode b_Packer_digitOfCode 3 = .ok (.bipush 122, 2) := by decide +kernel
theorem d_Packer_digitOfCode_5 : decode b_Packer_digitOfCode 5 = .ok (.invokestatic 64, 3) := by decide +kernel
theorem d_Packer_digitOfCode_8 : decode b_Packer_digitOfCode 8 = .ok (.ifCond .eq 8, 3) := by decide +kernel
theorem d_Packer_digitOfCode_11 : decode b_Packer_digitOfCode 11 = .ok (.iload_n 0, 1) := by decide +kernel
theorem d_Packer_digitOfCode_12 : decode b_Packer_digitOfCode 12 = .ok (.bipush 97, 2) := by decide +kernel
theorem d_Packer_digitOfCode_14 : decode b_Packer_digitOfCode 14 = .ok (.isub, 1) := by decide +kernel
theorem d_Packer_digitOfCode_15 : decode b_Packer_digitOfCode 15 = .ok (.ireturn, 1) := by decide +kernel
theorem d_Packer_digitOfCode_16 : decode b_Packer_digitOfCode 16 = .ok (.iload_n 0, 1) := by decide +kernel
theorem d_Packer_digitOfCode_17 : decode b_Packer_digitOfCode 17 = .ok (.invokestatic 70, 3) := by decide +kernel
theorem d_Packer_digitOfCode_20 : decode b_Packer_digitOfCode 20 = .ok (.ifCond .eq 8, 3) := by decide +kernel
theorem d_Packer_digitOfCode_23 : decode b_Packer_digitOfCode 23 = .ok (.iload_n 0, 1) := by decide +kernel
theorem d_Packer_digitOfCode_24 : decode b_Packer_digitOfCode 24 = .ok (.bipush 65, 2) := by decide +kernel
theorem d_Packer_digitOfCode_26 : decode b_Packer_digitOfCode 26 = .ok (.isub, 1) := by decide +kernel
theorem d_Packer_digitOfCode_27 : decode b_Packer_digitOfCode 27 = .ok (.ireturn, 1) := by decide +kernel
theorem d_Packer_digitOfCode_28 : decode b_Packer_digitOfCode 28 = .ok (.iload_n 0, 1) := by decide +kernel
theorem d_Packer_digitOfCode_29 : decode b_Packer_digitOfCode 29 = .ok (.bipush 48, 2) := by decide +kernel
theorem d_Packer_digitOfCode_31 : decode b_Packer_digitOfCode 31 = .ok (.bipush 57, 2) := by decide +kernel
theorem d_Packer_digitOfCode_33 : decode b_Packer_digitOfCode 33 = .ok (.invokestatic 64, 3) := by decide +kernel
theorem d_Packer_digitOfCode_36 : decode b_Packer_digitOfCode 36 = .ok (.ifCond .eq 13, 3) := by decide +kernel
theorem d_Packer_digitOfCode_39 : decode b_Packer_digitOfCode 39 = .ok (.iload_n 0, 1) := by decide +kernel
theorem d_Packer_digitOfCode_40 : decode b_Packer_digitOfCode 40 = .ok (.bipush 48, 2) := by decide +kernel
theorem d_Packer_digitOfCode_42 : decode b_Packer_digitOfCode 42 = .ok (.isub, 1) := by decide +kernel
theorem d_Packer_digitOfCode_43 : decode b_Packer_digitOfCode 43 = .ok (.bipush 26, 2) := by decide +kernel
theorem d_Packer_digitOfCode_45 : decode b_Packer_digitOfCode 45 = .ok (.iadd, 1) := by decide +kernel
theorem d_Packer_digitOfCode_46 : decode b_Packer_digitOfCode 46 = .ok (.goto 4, 3) := by decide +kernel
theorem d_Packer_digitOfCode_49 : decode b_Packer_digitOfCode 49 = .ok (.iconst (-1), 1) := by decide +kernel
theorem d_Packer_digitOfCode_50 : decode b_Packer_digitOfCode 50 = .ok (.ireturn, 1) := by decide +kernel
theorem d_Packer_adapt_0 : decode b_Packer_adapt 0 = .ok (.iload_n 3, 1) := by decide +kernel
theorem d_Packer_adapt_1 : decode b_Packer_adapt 1 = .ok (.ifCond .eq 11, 3) := by decide +kernel
theorem d_Packer_adapt_4 : decode b_Packer_adapt 4 = .ok (.iload_n 1, 1) := by decide +kernel
theorem d_Packer_adapt_5 : decode b_Packer_adapt 5 = .ok (.sipush 700, 3) := by decide +kernel
theorem d_Packer_adapt_8 : decode b_Packer_adapt 8 = .ok (.idiv, 1) := by decide +kernel
theorem d_Packer_adapt_9 : decode b_Packer_adapt 9 = .ok (.goto 6, 3) := by decide +kernel
theorem d_Packer_adapt_12 : decode b_Packer_adapt 12 = .ok (.iload_n 1, 1) := by decide +kernel
theorem d_Packer_adapt_13 : decode b_Packer_adapt 13 = .ok (.iconst 2, 1) := by decide +kernel
theorem d_Packer_adapt_14 : decode b_Packer_adapt 14 = .ok (.idiv, 1) := by decide +kernel
theorem d_Packer_adapt_15 : decode b_Packer_adapt 15 = .ok (.istore 4, 2) := by decide +kernel
theorem d_Packer_adapt_17 : decode b_Packer_adapt 17 = .ok (.iload 4, 2) := by decide +kernel
theorem d_Packer_adapt_19 : decode b_Packer_adapt 19 = .ok (.iload 4, 2) := by decide +kernel
theorem d_Packer_adapt_21 : decode b_Packer_adapt 21 = .ok (.iconst 1, 1) := by decide +kernel
theorem d_Packer_adapt_22 : decode b_Packer_adapt 22 = .ok (.iload_n 2, 1) := by decide +kernel
theorem d_Packer_adapt_23 : decode b_Packer_adapt 23 = .ok (.invokestatic 55, 3) := by decide +kernel
theorem d_Packer_adapt_26 : decode b_Packer_adapt 26 = .ok (.idiv, 1) := by decide +kernel
theorem d_Packer_adapt_27 : decode b_Packer_adapt 27 = .ok (.iadd, 1) := by decide +kernel
theorem d_Packer_adapt_28 : decode b_Packer_adapt 28 = .ok (.istore 4, 2) := by decide +kernel
theorem d_Packer_adapt_30 : decode b_Packer_adapt 30 = .ok (.iconst 0, 1) := by decide +kernel
theorem d_Packer_adapt_31 : decode b_Packer_adapt 31 = .ok (.istore 5, 2) := by decide +kernel
theorem d_Packer_adapt_33 : decode b_Packer_adapt 33 = .ok (.iconst 0, 1) := by decide +kernel
theorem d_Packer_adapt_34 : decode b_Packer_adapt 34 = .ok (.istore 6, 2) := by decide +kernel
theorem d_Packer_adapt_36 : decode b_Packer_adapt 36 = .ok (.iload 6, 2) := by decide +kernel
theorem d_Packer_adapt_38 : decode b_Packer_adapt 38 = .ok (.bipush 100, 2) := by decide +kernel
theorem d_Packer_adapt_40 : decode b_Packer_adapt 40 = .ok (.if_icmp .ge 27, 3) := by decide +kernel
theorem d_Packer_adapt_43 : decode b_Packer_adapt 43 = .ok (.iload 4, 2) := by decide +kernel
theorem d_Packer_adapt_45 : decode b_Packer_adapt 45 = .ok (.sipush 455, 3) := by decide +kernel
theorem d_Packer_adapt_48 : decode b_Packer_adapt 48 = .ok (.if_icmp .le 19, 3) := by decide +kernel
theorem d_Packer_adapt_51 : decode b_Packer_adapt 51 = .ok (.iload 4, 2) := by decide +kernel
theorem d_Packer_adapt_53 : decode b_Packer_adapt 53 = .ok (.bipush 35, 2) := by decide +kernel
theorem d_Packer_adapt_55 : decode b_Packer_adapt 55 = .ok (.idiv, 1) := by decide +kernel
theorem d_Packer_adapt_56 : decode b_Packer_adapt 56 = .ok (.istore 4, 2) := by decide +kernel
theorem d_Packer_adapt_58 : decode b_Packer_adapt 58 = .ok (.iinc 5 36, 3) := by decide +kernel
theorem d_Packer_adapt_61 : decode b_Packer_adapt 61 = .ok (.iinc 6 1, 3) := by decide +kernel
theorem d_Packer_adapt_64 : decode b_Packer_adapt 64 = .ok (.goto (-28), 3) := by decide +kernel
theorem d_Packer_adapt_67 : decode b_Packer_adapt 67 = .ok (.aload_n 0, 1) := by decide +kernel
theorem d_Packer_adapt_68 : decode b_Packer_adapt 68 = .ok (.iload 5, 2) := by decide +kernel
theorem d_Packer_adapt_70 : decode b_Packer_adapt 70 = .ok (.bipush 36, 2) := by decide +kernel
theorem d_Packer_adapt_72 : decode b_Packer_adapt 72 = .ok (.iload 4, 2) := by decide +kernel
theorem d_Packer_adapt_74 : decode b_Packer_adapt 74 = .ok (.imul, 1) := by decide +kernel
theorem d_Packer_adapt_75 : decode b_Packer_adapt 75 = .ok (.iload 4, 2) := by decide +kernel
theorem d_Packer_adapt_77 : decode b_Packer_adapt 77 = .ok (.bipush 38, 2) := by decide +kernel
theorem d_Packer_adapt_79 : decode b_Packer_adapt 79 = .ok (.iadd, 1) := by decide +kernel
theorem d_Packer_adapt_80 : decode b_Packer_adapt 80 = .ok (.idiv, 1) := by decide +kernel
theorem d_Packer_adapt_81 : decode b_Packer_adapt 81 = .ok (.iadd, 1) := by decide +kernel
theorem d_Packer_adapt_82 : decode b_Packer_adapt 82 = .ok (.putfield 11, 3) := by decide +kernel
theorem d_Packer_adapt_85 : decode b_Packer_adapt 85 = .ok (.return_, 1) := by decide +kernel
theorem d_Packer_read_0 : decode b_Packer_read 0 = .ok (.aload_n 3, 1) := by decide +kernel
theorem d_Packer_read_1 : decode b_Packer_read 1 = .ok (.invokevirtual 73, 3) := by decide +kernel
theorem d_Packer_read_4 : decode b_Packer_read 4 = .ok (.aload_n 0, 1) := by decide +kernel
theorem d_Packer_read_5 : decode b_Packer_read 5 = .ok (.aload_n 1, 1) := by decide +kernel
theorem d_Packer_read_6 : decode b_Packer_read 6 = .ok (.iload_n 2, 1) := by decide +kernel
theorem d_Packer_read_7 : decode b_Packer_read 7 = .ok (.aload_n 3, 1) := by decide +kernel
theorem d_Packer_read_8 : decode b_Packer_read 8 = .ok (.invokevirtual 76, 3) := by decide +kernel
theorem d_Packer_read_11 : decode b_Packer_read 11 = .ok (.ifCond .ne 5, 3) := by decide +kernel
theorem d_Packer_read_14 : decode b_Packer_read 14 = .ok (.iconst 0, 1) := by decide +kernel
theorem d_Packer_read_15 : decode b_Packer_read 15 = .ok (.ireturn, 1) := by decide +kernel
theorem d_Packer_read_16 : decode b_Packer_read 16 = .ok (.lconst 0, 1) := by decide +kernel
theorem d_Packer_read_17 : decode b_Packer_read 17 = .ok (.lstore 4, 2) := by decide +kernel
theorem d_Packer_read_19 : decode b_Packer_read 19 = .ok (.ldc2_w 80, 3) := by decide +kernel
theorem d_Packer_read_22 : decode b_Packer_read 22 = .ok (.lstore 6, 2) := by decide +kernel
theorem d_Packer_read_24 : decode b_Packer_read 24 = .ok (.aload_n 0, 1) := by decide +kernel
theorem d_Packer_read_25 : decode b_Packer_read 25 = .ok (.bipush 72, 2) := by decide +kernel
theorem d_Packer_read_27 : decode b_Packer_read 27 = .ok (.putfield 11, 3) := by decide +kernel
theorem d_Packer_read_30 : decode b_Packer_read 30 = .ok (.iconst 0, 1) := by decide +kernel
theorem d_Packer_read_31 : decode b_Packer_read 31 = .ok (.istore 8, 2) := by decide +kernel
theorem d_Packer_read_33 : decode b_Packer_read 33 = .ok (.iload 8, 2) := by decide +kernel
theorem d_Packer_read_35 : decode b_Packer_read 35 = .ok (.aload_n 1, 1) := by decide +kernel
theorem d_Packer_read_36 : decode b_Packer_read 36 = .ok (.invokevirtual 22, 3) := by decide +kernel
theorem d_Packer_read_39 : decode b_Packer_read 39 = .ok (.if_icmp .ge 130, 3) := by decide +kernel
theorem d_Packer_read_42 : decode b_Packer_read 42 = .ok (.aload_n 0, 1) := by decide +kernel
theorem d_Packer_read_43 : decode b_Packer_read 43 = .ok (.getfield 15, 3) := by decide +kernel
theorem d_Packer_read_46 : decode b_Packer_read 46 = .ok (.aload_n 1, 1) := by decide +kernel
theorem d_Packer_read_47 : decode b_Packer_read 47 = .ok (.invokevirtual 22, 3) := by decide +kernel
theorem d_Packer_read_50 : decode b_Packer_read 50 = .ok (.if_icmp .ge 119, 3) := by decide +kernel
theorem d_Packer_read_53 : decode b_Packer_read 53 = .ok (.lload 4, 2) := by decide +kernel
theorem d_Packer_read_55 : decode b_Packer_read 55 = .ok (.lstore 9, 2) := by decide +kernel
theorem d_Packer_read_57 : decode b_Packer_read 57 = .ok (.aload_n 0, 1) := by decide +kernel
theorem d_Packer_read_58 : decode b_Packer_read 58 = .ok (.aload_n 1, 1) := by decide +kernel
theorem d_Packer_read_59 : decode b_Packer_read 59 = .ok (.lload 9, 2) := by decide +kernel
theorem d_Packer_read_61 : decode b_Packer_read 61 = .ok (.invokevirtual 82, 3) := by decide +kernel
theorem d_Packer_read_64 : decode b_Packer_read 64 = .ok (.lstore 4, 2) := by decide +kernel
theorem d_Packer_read_66 : decode b_Packer_read 66 = .ok (.lload 4, 2) := by decide +kernel
theorem d_Packer_read_68 : decode b_Packer_read 68 = .ok (.ldc2_w 86, 3) := by decide +kernel
theorem d_Packer_read_71 : decode b_Packer_read 71 = .ok (.lcmp, 1) := by decide +kernel
theorem d_Packer_read_72 : decode b_Packer_read 72 = .ok (.ifCond .ne 5, 3) := by decide +kernel
theorem d_Packer_read_75 : decode b_Packer_read 75 = .ok (.iconst 0, 1) := by decide +kernel
theorem d_Packer_read_76 : decode b_Packer_read 76 = .ok (.ireturn, 1) := by decide +kernel
theorem d_Packer_read_77 : decode b_Packer_read 77 = .ok (.aload_n 3, 1) := by decide +kernel
theorem d_Packer_read_78 : decode b_Packer_read 78 = .ok (.invokevirtual 22, 3) := by decide +kernel
theorem d_Packer_read_81 : decode b_Packer_read 81 = .ok (.iconst 1, 1) := by decide +kernel
theorem d_Packer_read_82 : decode b_Packer_read 82 = .ok (.iadd, 1) := by decide +kernel
theorem d_Packer_read_83 : decode b_Packer_read 83 = .ok (.istore 11, 2) := by decide +kernel
theorem d_Packer_read_85 : decode b_Packer_read 85 = .ok (.aload_n 0, 1) := by decide +kernel
theorem d_Packer_read_86 : decode b_Packer_read 86 = .ok (.lload 4, 2) := by decide +kernel
theorem d_Packer_read_88 : decode b_Packer_read 88 = .ok (.lload 9, 2) := by decide +kernel
theorem d_Packer_read_90 : decode b_Packer_read 90 = .ok (.lsub, 1) := by decide +kernel
theorem d_Packer_read_91 : decode b_Packer_read 91 = .ok (.l2i, 1) := by decide +kernel
theorem d_Packer_read_92 : decode b_Packer_read 92 = .ok (.iload 11, 2) := by decide +kernel
theorem d_Packer_read_94 : decode b_Packer_read 94 = .ok (.lload 9, 2) := by decide +kernel
theorem d_Packer_read_96 : decode b_Packer_read 96 = .ok (.lconst 0, 1) := by decide +kernel
theorem d_Packer_read_97 : decode b_Packer_read 97 = .ok (.lcmp, 1) := by decide +kernel
theorem d_Packer_read_98 : decode b_Packer_read 98 = .ok (.ifCond .ne 7, 3) := by decide +kernel
theorem d_Packer_read_101 : decode b_Packer_read 101 = .ok (.iconst 1, 1) := by decide +kernel
theorem d_Packer_read_102 : decode b_Packer_read 102 = .ok (.goto 4, 3) := by decide +kernel
theorem d_Packer_read_105 : decode b_Packer_read 105 = .ok (.iconst 0, 1) := by decide +kernel
theorem d_Packer_read_106 : decode b_Packer_read 106 = .ok (.invokevirtual 40, 3) := by decide +kernel
theorem d_Packer_read_109 : decode b_Packer_read 109 = .ok (.lload 6, 2) := by decide +kernel
theorem d_Packer_read_111 : decode b_Packer_read 111 = .ok (.lload 4, 2) := by decide +kernel
theorem d_Packer_read_113 : decode b_Packer_read 113 = .ok (.iload 11, 2) := by decide +kernel
theorem d_Packer_read_115 : decode b_Packer_read 115 = .ok (.i2l, 1) := by decide +kernel
theorem d_Packer_read_116 : decode b_Packer_read 116 = .ok (.ldiv, 1) := by decide +kernel
theorem d_Packer_read_117 : decode b_Packer_read 117 = .ok (.ladd, 1) := by decide +kernel
theorem d_Packer_read_118 : decode b_Packer_read 118 = .ok (.lstore 6, 2) := by decide +kernel
theorem d_Packer_read_120 : decode b_Packer_read 120 = .ok (.lload 4, 2) := by decide +kernel
theorem d_Packer_read_122 : decode b_Packer_read 122 = .ok (.iload 11, 2) := by decide +kernel
theorem d_Packer_read_124 : decode b_Packer_read 124 = .ok (.i2l, 1) := by decide +kernel
theorem d_Packer_read_125 : decode b_Packer_read 125 = .ok (.lrem, 1) := by decide +kernel
theorem d_Packer_read_126 : decode b_Packer_read 126 = .ok (.lstore 4, 2) := by decide +kernel
theorem d_Packer_read_128 : decode b_Packer_read 128 = .ok (.lload 6, 2) := by decide +kernel
theorem d_Packer_read_130 : decode b_Packer_read 130 = .ok (.ldc2_w 88, 3) := by decide +kernel
theorem d_Packer_read_133 : decode b_Packer_read 133 = .ok (.lcmp, 1) := by decide +kernel
theorem d_Packer_read_134 : decode b_Packer_read 134 = .ok (.ifCond .gt 10, 3) := by decide +kernel
theorem d_Packer_read_137 : decode b_Packer_read 137 = .ok (.iload 11, 2) := by decide +kernel
theorem d_Packer_read_139 : decode b_Packer_read 139 = .ok (.bipush 48, 2) := by decide +kernel
theorem d_Packer_read_141 : decode b_Packer_read 141 = .ok (.if_icmp .le 5, 3) := by decide +kernel
theorem d_Packer_read_144 : decode b_Packer_read 144 = .ok (.iconst 0, 1) := by decide +kernel
theorem d_Packer_read_145 : decode b_Packer_read 145 = .ok (.ireturn, 1) := by decide +kernel
theorem d_Packer_read_146 : decode b_Packer_read 146 = .ok (.aload_n 3, 1) := by decide +kernel
theorem d_Packer_read_147 : decode b_Packer_read 147 = .ok (.lload 4, 2) := by decide +kernel
theorem d_Packer_read_149 : decode b_Packer_read 149 = .ok (.l2i, 1) := by decide +kernel
theorem d_Packer_read_150 : decode b_Packer_read 150 = .ok (.lload 6, 2) := by decide +kernel
theorem d_Packer_read_152 : decode b_Packer_read 152 = .ok (.l2i, 1) := by decide +kernel
theorem d_Packer_read_153 : decode b_Packer_read 153 = .ok (.invokevirtual 90, 3) := by decide +kernel
theorem d_Packer_read_156 : decode b_Packer_read 156 = .ok (.pop, 1) := by decide +kernel
theorem d_Packer_read_157 : decode b_Packer_read 157 = .ok (.lload 4, 2) := by decide +kernel
theorem d_Packer_read_159 : decode b_Packer_read 159 = .ok (.lconst 1, 1) := by decide +kernel
theorem d_Packer_read_160 : decode b_Packer_read 160 = .ok (.ladd, 1) := by decide +kernel
theorem d_Packer_read_161 : decode b_Packer_read 161 = .ok (.lstore 4, 2) := by decide +kernel
theorem d_Packer_read_163 : decode b_Packer_read 163 = .ok (.iinc 8 1, 3) := by decide +kernel
theorem d_Packer_read_166 : decode b_Packer_read 166 = .ok (.goto (-133), 3) := by decide +kernel
theorem d_Packer_read_169 : decode b_Packer_read 169 = .ok (.iconst 1, 1) := by decide +kernel
theorem d_Packer_read_170 : decode b_Packer_read 170 = .ok (.ireturn, 1) := by decide +kernel
theorem d_Packer_readBasic_0 : decode b_Packer_readBasic 0 = .ok (.aload_n 0, 1) := by decide +kernel
theorem d_Packer_readBasic_1 : decode b_Packer_readBasic 1 = .ok (.iload_n 2, 1) := by decide +kernel
theorem d_Packer_readBasic_2 : decode b_Packer_readBasic 2 = .ok (.putfield 15, 3) := by decide +kernel
theorem d_Packer_readBasic_5 : decode b_Packer_readBasic 5 = .ok (.iload_n 2, 1) := by decide +kernel
theorem d_Packer_readBasic_6 : decode b_Packer_readBasic 6 = .ok (.istore 4, 2) := by decide +kernel
theorem d_Packer_readBasic_8 : decode b_Packer_readBasic 8 = .ok (.iload_n 2, 1) := by decide +kernel
theorem d_Packer_readBasic_9 : decode b_Packer_readBasic 9 = .ok (.istore 5, 2) := by decide +kernel
theorem d_Packer_readBasic_11 : decode b_Packer_readBasic 11 = .ok (.iload 5, 2) := by decide +kernel
theorem d_Packer_readBasic_13 : decode b_Packer_readBasic 13 = .ok (.aload_n 1, 1) := by decide +kernel
theorem d_Packer_readBasic_14 : decode b_Packer_readBasic 14 = .ok (.invokevirtual 22, 3) := by decide +kernel
theorem d_Packer_readBasic_17 : decode b_Packer_readBasic 17 = .ok (.if_icmp .ge 32, 3) := by decide +kernel
theorem d_Packer_readBasic_20 : decode b_Packer_readBasic 20 = .ok (.aload_n 1, 1) := by decide +kernel
theorem d_Packer_readBasic_21 : decode b_Packer_readBasic 21 = .ok (.iload 5, 2) := by decide +kernel
theorem d_Packer_readBasic_23 : decode b_Packer_readBasic 23 = .ok (.invokevirtual 32, 3) := by decide +kernel
theorem d_Packer_readBasic_26 : decode b_Packer_readBasic 26 = .ok (.bipush 45, 2) := by decide +kernel
theorem d_Packer_readBasic_28 : decode b_Packer_readBasic 28 = .ok (.if_icmp .ne 15, 3) := by decide +kernel
theorem d_Packer_readBasic_31 : decode b_Packer_readBasic 31 = .ok (.iload 5, 2) := by decide +kernel
theorem d_Packer_readBasic_33 : decode b_Packer_readBasic 33 = .ok (.istore 4, 2) := by decide +kernel
theorem d_Packer_readBasic_35 : decode b_Packer_readBasic 35 = .ok (.aload_n 0, 1) := by decide +kernel
theorem d_Packer_readBasic_36 : decode b_Packer_readBasic 36 = .ok (.iload 5, 2) := by decide +kernel
theorem d_Packer_readBasic_38 : decode b_Packer_readBasic 38 = .ok (.iconst 1, 1) := by decide +kernel
theorem d_Packer_readBasic_39 : decode b_Packer_readBasic 39 = .ok (.iadd, 1) := by decide +kernel
theorem d_Packer_readBasic_40 : decode b_Packer_readBasic 40 = .ok (.putfield 15, 3) := by decide +kernel
theorem d_Packer_readBasic_43 : decode b_Packer_readBasic 43 = .ok (.iinc 5 1, 3) := by decide +kernel
theorem d_Packer_readBasic_46 : decode b_Packer_readBasic 46 = .ok (.goto (-35), 3) := by decide +kernel
theorem d_Packer_readBasic_49 : decode b_Packer_readBasic 49 = .ok (.iload_n 2, 1) := by decide +kernel
theorem d_Packer_readBasic_50 : decode b_Packer_readBasic 50 = .ok (.istore 5, 2) := by decide +kernel
theorem d_Packer_readBasic_52 : decode b_Packer_readBasic 52 = .ok (.iload 5, 2) := by decide +kernel
theorem d_Packer_readBasic_54 : decode b_Packer_readBasic 54 = .ok (.iload 4, 2) := by decide +kernel
theorem d_Packer_readBasic_56 : decode b_Packer_readBasic 56 = .ok (.if_icmp .ge 43, 3) := by decide +kernel
theorem d_Packer_readBasic_59 : decode b_Packer_readBasic 59 = .ok (.aload_n 1, 1) := by decide +kernel
theorem d_Packer_readBasic_60 : decode b_Packer_readBasic 60 = .ok (.iload 5, 2) := by decide +kernel
theorem d_Packer_readBasic_62 : decode b_Packer_readBasic 62 = .ok (.invokevirtual 32, 3) := by decide +kernel
theorem d_Packer_readBasic_65 : decode b_Packer_readBasic 65 = .ok (.sipush 128, 3) := by decide +kernel
theorem d_Packer_readBasic_68 : decode b_Packer_readBasic 68 = .ok (.if_icmp .ge 12, 3) := by decide +kernel
theorem d_Packer_readBasic_71 : decode b_Packer_readBasic 71 = .ok (.aload_n 3, 1) := by decide +kernel
theorem d_Packer_readBasic_72 : decode b_Packer_readBasic 72 = .ok (.invokevirtual 22, 3) := by decide +kernel
theorem d_Packer_readBasic_75 : decode b_Packer_readBasic 75 = .ok (.bipush 48, 2) := by decide +kernel
theorem d_Packer_readBasic_77 : decode b_Packer_readBasic 77 = .ok (.if_icmp .lt 5, 3) := by decide +kernel
theorem d_Packer_readBasic_80 : decode b_Packer_readBasic 80 = .ok (.iconst 0, 1) := by decide +kernel
theorem d_Packer_readBasic_81 : decode b_Packer_readBasic 81 = .ok (.ireturn, 1) := by decide +kernel
theorem d_Packer_readBasic_82 : decode b_Packer_readBasic 82 = .ok (.aload_n 3, 1) := by decide +kernel
theorem d_Packer_readBasic_83 : decode b_Packer_readBasic 83 = .ok (.aload_n 1, 1) := by decide +kernel
theorem d_Packer_readBasic_84 : decode b_Packer_readBasic 84 = .ok (.iload 5, 2) := by decide +kernel
theorem d_Packer_readBasic_86 : decode b_Packer_readBasic 86 = .ok (.invokevirtual 32, 3) := by decide +kernel
theorem d_Packer_readBasic_89 : decode b_Packer_readBasic 89 = .ok (.invokevirtual 44, 3) := by decide +kernel
theorem d_Packer_readBasic_92 : decode b_Packer_readBasic 92 = .ok (.pop, 1) := by decide +kernel
theorem d_Packer_readBasic_93 : decode b_Packer_readBasic 93 = .ok (.iinc 5 1, 3) := by decide +kernel
theorem d_Packer_readBasic_96 : decode b_Packer_readBasic 96 = .ok (.goto (-44), 3) := by decide +kernel
theorem d_Packer_readBasic_99 : decode b_Packer_readBasic 99 = .ok (.iconst 1, 1) := by decide +kernel
theorem d_Packer_readBasic_100 : decode b_Packer_readBasic 100 = .ok (.ireturn, 1) := by decide +kernel
theorem d_Packer_readNumber_0 : decode b_Packer_readNumber 0 = .ok (.lload_n 2, 1) := by decide +kernel
theorem d_Packer_readNumber_1 : decode b_Packer_readNumber 1 = .ok (.lstore 4, 2) := by decide +kernel
theorem d_Packer_readNumber_3 : decode b_Packer_readNumber 3 = .ok (.lconst 1, 1) := by decide +kernel
theorem d_Packer_readNumber_4 : decode b_Packer_readNumber 4 = .ok (.lstore 6, 2) := by decide +kernel
theorem d_Packer_readNumber_6 : decode b_Packer_readNumber 6 = .ok (.iconst 0, 1) := by decide +kernel
theorem d_Packer_readNumber_7 : decode b_Packer_readNumber 7 = .ok (.istore 8, 2) := by decide +kernel
theorem d_Packer_readNumber_9 : decode b_Packer_readNumber 9 = .ok (.iload 8, 2) := by decide +kernel
theorem d_Packer_readNumber_11 : decode b_Packer_readNumber 11 = .ok (.bipush 100, 2) := by decide +kernel
theorem d_Packer_readNumber_13 : decode b_Packer_readNumber 13 = .ok (.if_icmp .ge 119, 3) := by decide +kernel
theorem d_Packer_readNumber_16 : decode b_Packer_readNumber 16 = .ok (.aload_n 0, 1) := by decide +kernel
theorem d_Packer_readNumber_17 : decode b_Packer_readNumber 17 = .ok (.getfield 15, 3) := by decide +kernel
theorem d_Packer_readNumber_20 : decode b_Packer_readNumber 20 = .ok (.aload_n 1, 1) := by decide +kernel
theorem d_Packer_readNumber_21 : decode b_Packer_readNumber 21 = .ok (.invokevirtual 22, 3) := by decide +kernel
theorem d_Packer_readNumber_24 : decode b_Packer_readNumber 24 = .ok (.if_icmp .ge 108, 3) := by decide +kernel
theorem d_Packer_readNumber_27 : decode b_Packer_readNumber 27 = .ok (.aload_n 1, 1) := by decide +kernel
theorem d_Packer_readNumber_28 : decode b_Packer_readNumber 28 = .ok (.aload_n 0, 1) := by decide +kernel
theorem d_Packer_readNumber_29 : decode b_Packer_readNumber 29 = .ok (.getfield 15, 3) := by decide +kernel
theorem d_Packer_readNumber_32 : decode b_Packer_readNumber 32 = .ok (.invokevirtual 32, 3) := by decide +kernel
theorem d_Packer_readNumber_35 : decode b_Packer_readNumber 35 = .ok (.invokestatic 94, 3) := by decide +kernel
theorem d_Packer_readNumber_38 : decode b_Packer_readNumber 38 = .ok (.istore 9, 2) := by decide +kernel
theorem d_Packer_readNumber_40 : decode b_Packer_readNumber 40 = .ok (.aload_n 0, 1) := by decide +kernel
theorem d_Packer_readNumber_41 : decode b_Packer_readNumber 41 = .ok (.dup, 1) := by decide +kernel
theorem d_Packer_readNumber_42 : decode b_Packer_readNumber 42 = .ok (.getfield 15, 3) := by decide +kernel
theorem d_Packer_readNumber_45 : decode b_Packer_readNumber 45 = .ok (.iconst 1, 1) := by decide +kernel
theorem d_Packer_readNumber_46 : decode b_Packer_readNumber 46 = .ok (.iadd, 1) := by decide +kernel
theorem d_Packer_readNumber_47 : decode b_Packer_readNumber 47 = .ok (.putfield 15, 3) := by decide +kernel
theorem d_Packer_readNumber_50 : decode b_Packer_readNumber 50 = .ok (.iload 9, 2) := by decide +kernel
theorem d_Packer_readNumber_52 : decode b_Packer_readNumber 52 = .ok (.iconst (-1), 1) := by decide +kernel
theorem d_Packer_readNumber_53 : decode b_Packer_readNumber 53 = .ok (.if_icmp .ne 7, 3) := by decide +kernel
theorem d_Packer_readNumber_56 : decode b_Packer_readNumber 56 = .ok (.ldc2_w 86, 3) := by decide +kernel
theorem d_Packer_readNumber_59 : decode b_Packer_readNumber 59 = .ok (.lreturn, 1) := by decide +kernel
theorem d_Packer_readNumber_60 : decode b_Packer_readNumber 60 = .ok (.lload 4, 2) := by decide +kernel
theorem d_Packer_readNumber_62 : decode b_Packer_readNumber 62 = .ok (.iload 9, 2) := by decide +kernel
theorem d_Packer_readNumber_64 : decode b_Packer_readNumber 64 = .ok (.i2l, 1) := by decide +kernel
theorem d_Packer_readNumber_65 : decode b_Packer_readNumber 65 = .ok (.lload 6, 2) := by decide +kernel
theorem d_Packer_readNumber_67 : decode b_Packer_readNumber 67 = .ok (.lmul, 1) := by decide +kernel
theorem d_Packer_readNumber_68 : decode b_Packer_readNumber 68 = .ok (.ladd, 1) := by decide +kernel
theorem d_Packer_readNumber_69 : decode b_Packer_readNumber 69 = .ok (.lstore 4, 2) := by decide +kernel
theorem d_Packer_readNumber_71 : decode b_Packer_readNumber 71 = .ok (.aload_n 0, 1) := by decide +kernel
theorem d_Packer_readNumber_72 : decode b_Packer_readNumber 72 = .ok (.iload 8, 2) := by decide +kernel
theorem d_Packer_readNumber_74 : decode b_Packer_readNumber 74 = .ok (.invokevirtual 58, 3) := by decide +kernel
theorem d_Packer_readNumber_77 : decode b_Packer_readNumber 77 = .ok (.istore 10, 2) := by decide +kernel
theorem d_Packer_readNumber_79 : decode b_Packer_readNumber 79 = .ok (.lload 4, 2) := by decide +kernel
theorem d_Packer_readNumber_81 : decode b_Packer_readNumber 81 = .ok (.ldc2_w 97, 3) := by decide +kernel
theorem d_Packer_readNumber_84 : decode b_Packer_readNumber 84 = .ok (.lcmp, 1) := by decide +kernel
theorem d_Packer_readNumber_85 : decode b_Packer_readNumber 85 = .ok (.ifCond .le 7, 3) := by decide +kernel
theorem d_Packer_readNumber_88 : decode b_Packer_readNumber 88 = .ok (.ldc2_w 86, 3) := by decide +kernel
theorem d_Packer_readNumber_91 : decode b_Packer_readNumber 91 = .ok (.lreturn, 1) := by decide +kernel
theorem d_Packer_readNumber_92 : decode b_Packer_readNumber 92 = .ok (.iload 9, 2) := by decide +kernel
theorem d_Packer_readNumber_94 : decode b_Packer_readNumber 94 = .ok (.iload 10, 2) := by decide +kernel
theorem d_Packer_readNumber_96 : decode b_Packer_readNumber 96 = .ok (.if_icmp .ge 6, 3) := by decide +kernel
theorem d_Packer_readNumber_99 : decode b_Packer_readNumber 99 = .ok (.lload 4, 2) := by decide +kernel
theorem d_Packer_readNumber_101 : decode b_Packer_readNumber 101 = .ok (.lreturn, 1) := by decide +kernel
theorem d_Packer_readNumber_102 : decode b_Packer_readNumber 102 = .ok (.lload 6, 2) := by decide +kernel
theorem d_Packer_readNumber_104 : decode b_Packer_readNumber 104 = .ok (.bipush 36, 2) := by decide +kernel
theorem d_Packer_readNumber_106 : decode b_Packer_readNumber 106 = .ok (.iload 10, 2) := by decide +kernel
theorem d_Packer_readNumber_108 : decode b_Packer_readNumber 108 = .ok (.isub, 1) := by decide +kernel
theorem d_Packer_readNumber_109 : decode b_Packer_readNumber 109 = .ok (.i2l, 1) := by decide +kernel
theorem d_Packer_readNumber_110 : decode b_Packer_readNumber 110 = .ok (.lmul, 1) := by decide +kernel
theorem d_Packer_readNumber_111 : decode b_Packer_readNumber 111 = .ok (.lstore 6, 2) := by decide +kernel
theorem d_Packer_readNumber_113 : decode b_Packer_readNumber 113 = .ok (.lload 6, 2) := by decide +kernel
theorem d_Packer_readNumber_115 : decode b_Packer_readNumber 115 = .ok (.ldc2_w 97, 3) := by decide +kernel
theorem d_Packer_readNumber_118 : decode b_Packer_readNumber 118 = .ok (.lcmp, 1) := by decide +kernel
theorem d_Packer_readNumber_119 : decode b_Packer_readNumber 119 = .ok (.ifCond .le 7, 3) := by decide +kernel
theorem d_Packer_readNumber_122 : decode b_Packer_readNumber 122 = .ok (.ldc2_w 86, 3) := by decide +kernel
theorem d_Packer_readNumber_125 : decode b_Packer_readNumber 125 = .ok (.lreturn, 1) := by decide +kernel
theorem d_Packer_readNumber_126 : decode b_Packer_readNumber 126 = .ok (.iinc 8 1, 3) := by decide +kernel
theorem d_Packer_readNumber_129 : decode b_Packer_readNumber 129 = .ok (.goto (-120), 3) := by decide +kernel
theorem d_Packer_readNumber_132 : decode b_Packer_readNumber 132 = .ok (.ldc2_w 86, 3) := by decide +kernel
theorem d_Packer_readNumber_135 : decode b_Packer_readNumber 135 = .ok (.lreturn, 1) := by decide +kernel
end
section
theorem d_Checker_init_0 : decode b_Checker_init 0 = .ok (.aload_n 0, 1) := by decide +kernel
theorem d_Checker_init_1 : decode b_Checker_init 1 = .ok (.invokespecial 3, 3) := by decide +kernel
theorem d_Checker_init_4 : decode b_Checker_init 4 = .ok (.aload_n 0, 1) := by decide +kernel
theorem d_Checker_init_5 : decode b_Checker_init 5 = .ok (.aload_n 1, 1) := by decide +kernel
theorem d_Checker_init_6 : decode b_Checker_init 6 = .ok (.putfield 9, 3) := by decide +kernel
theorem d_Checker_init_9 : decode b_Checker_init 9 = .ok (.aload_n 0, 1) := by decide +kernel
theorem d_Checker_init_10 : decode b_Checker_init 10 = .ok (.new 15, 3) := by decide +kernel
theorem d_Checker_init_13 : decode b_Checker_init 13 = .ok (.dup, 1) := by decide +kernel
theorem d_Checker_init_14 : decode b_Checker_init 14 = .ok (.bipush 96, 2) := by decide +kernel
theorem d_Checker_init_16 : decode b_Checker_init 16 = .ok (.invokespecial 17, 3) := by decide +kernel
theorem d_Checker_init_19 : decode b_Checker_init 19 = .ok (.putfield 20, 3) := by decide +kernel
theorem d_Checker_init_22 : decode b_Checker_init 22 = .ok (.return_, 1) := by decide +kernel
theorem d_Checker_isTagged_0 : decode b_Checker_isTagged 0 = .ok (.iconst 0, 1) := by decide +kernel
theorem d_Checker_isTagged_1 : decode b_Checker_isTagged 1 = .ok (.istore_n 1, 1) := by decide +kernel
theorem d_Checker_isTagged_2 : decode b_Checker_isTagged 2 = .ok (.iload_n 1, 1) := by decide +kernel
theorem d_Checker_isTagged_3 : decode b_Checker_isTagged 3 = .ok (.getstatic 24, 3) := by decide +kernel
theorem d_Checker_isTagged_6 : decode b_Checker_isTagged 6 = .ok (.arraylength, 1) := by decide +kernel
theorem d_Checker_isTagged_7 : decode b_Checker_isTagged 7 = .ok (.if_icmp .ge 24, 3) := by decide +kernel
theorem d_Checker_isTagged_10 : decode b_Checker_isTagged 10 = .ok (.aload_n 0, 1) := by decide +kernel
theorem d_Checker_isTagged_11 : decode b_Checker_isTagged 11 = .ok (.iload_n 1, 1) := by decide +kernel
theorem d_Checker_isTagged_12 : decode b_Checker_isTagged 12 = .ok (.invokevirtual 28, 3) := by decide +kernel
theorem d_Checker_isTagged_15 : decode b_Checker_isTagged 15 = .ok (.getstatic 24, 3) := by decide +kernel
theorem d_Checker_isTagged_18 : decode b_Checker_isTagged 18 = .ok (.iload_n 1, 1) := by decide +kernel
theorem d_Checker_isTagged_19 : decode b_Checker_isTagged 19 = .ok (.iaload, 1) := by decide +kernel
theorem d_Checker_isTagged_20 : decode b_Checker_isTagged 20 = .ok (.if_icmp .eq 5, 3) := by decide +kernel
theorem d_Checker_isTagged_23 : decode b_Checker_isTagged 23 = .ok (.iconst 0, 1) := by decide +kernel
theorem d_Checker_isTagged_24 : decode b_Checker_isTagged 24 = .ok (.ireturn, 1) := by decide +kernel
theorem d_Checker_isTagged_25 : decode b_Checker_isTagged 25 = .ok (.iinc 1 1, 3) := by decide +kernel
theorem d_Checker_isTagged_28 : decode b_Checker_isTagged 28 = .ok (.goto (-26), 3) := by decide +kernel
theorem d_Checker_isTagged_31 : decode b_Checker_isTagged 31 = .ok (.iconst 1, 1) := by decide +kernel
theorem d_Checker_isTagged_32 : decode b_Checker_isTagged 32 = .ok (.ireturn, 1) := by decide +kernel
theorem d_Checker_addTag_0 : decode b_Checker_addTag 0 = .ok (.iconst 0, 1) := by decide +kernel
theorem d_Checker_addTag_1 : decode b_Checker_addTag 1 = .ok (.istore_n 1, 1) := by decide +kernel
theorem d_Checker_addTag_2 : decode b_Checker_addTag 2 = .ok (.iload_n 1, 1) := by decide +kernel
theorem d_Checker_addTag_3 : decode b_Checker_addTag 3 = .ok (.getstatic 24, 3) := by decide +kernel
theorem d_Checker_addTag_6 : decode b_Checker_addTag 6 = .ok (.arraylength, 1) := by decide +kernel
theorem d_Checker_addTag_7 : decode b_Checker_addTag 7 = .ok (.if_icmp .ge 19, 3) := by decide +kernel
theorem d_Checker_addTag_10 : decode b_Checker_addTag 10 = .ok (.aload_n 0, 1) := by decide +kernel
theorem d_Checker_addTag_11 : decode b_Checker_addTag 11 = .ok (.getstatic 24, 3) := by decide +kernel
theorem d_Checker_addTag_14 : decode b_Checker_addTag 14 = .ok (.iload_n 1, 1) := by decide +kernel
theorem d_Checker_addTag_15 : decode b_Checker_addTag 15 = .ok (.iaload, 1) := by decide +kernel
theorem d_Checker_addTag_16 : decode b_Checker_addTag 16 = .ok (.invokevirtual 32, 3) := by decide +kernel
theorem d_Checker_addTag_19 : decode b_Checker_addTag 19 = .ok (.pop, 1) := by decide +kernel
theorem d_Checker_addTag_20 : decode b_Checker_addTag 20 = .ok (.iinc 1 1, 3) := by decide +kernel
theorem d_Checker_addTag_23 : decode b_Checker_addTag 23 = .ok (.goto (-21), 3) := by decide +kernel
theorem d_Checker_addTag_26 : decode b_Checker_addTag 26 = .ok (.return_, 1) := by decide +kernel
theorem d_Checker_brokenRules_0 : decode b_Checker_brokenRules 0 = .ok (.aload_n 0, 1) := by decide +kernel
theorem d_Checker_brokenRules_1 : decode b_Checker_brokenRules 1 = .ok (.getfield 9, 3) := by decide +kernel
theorem d_Checker_brokenRules_4 : decode b_Checker_brokenRules 4 = .ok (.aload_n 1, 1) := by decide +kernel
theorem d_Checker_brokenRules_5 : decode b_Checker_brokenRules 5 = .ok (.aload_n 0, 1) := by decide +kernel
theorem d_Checker_brokenRules_6 : decode b_Checker_brokenRules 6 = .ok (.getfield 20, 3) := by decide +kernel
theorem d_Checker_brokenRules_9 : decode b_Checker_brokenRules 9 = .ok (.invokevirtual 36, 3) := by decide +kernel
theorem d_Checker_brokenRules_12 : decode b_Checker_brokenRules 12 = .ok (.aload_n 0, 1) := by decide +kernel
theorem d_Checker_brokenRules_13 : decode b_Checker_brokenRules 13 = .ok (.getfield 20, 3) := by decide +kernel
theorem d_Checker_brokenRules_16 : decode b_Checker_brokenRules 16 = .ok (.aload_n 1, 1) := by decide +kernel
theorem d_Checker_brokenRules_17 : decode b_Checker_brokenRules 17 = .ok (.invokevirtual 41, 3) := by decide +kernel
theorem d_Checker_brokenRules_20 : decode b_Checker_brokenRules 20 = .ok (.ifCond .eq 7, 3) := by decide +kernel
theorem d_Checker_brokenRules_23 : decode b_Checker_brokenRules 23 = .ok (.iconst 0, 1) := by decide +kernel
theorem d_Checker_brokenRules_24 : decode b_Checker_brokenRules 24 = .ok (.goto 7, 3) := by decide +kernel
theorem d_Checker_brokenRules_27 : decode b_Checker_brokenRules 27 = .ok (.iconst 3, 1) := by decide +kernel
theorem d_Checker_brokenRules_28 : decode b_Checker_brokenRules 28 = .ok (.invokestatic 45, 3) := by decide +kernel
theorem d_Checker_brokenRules_31 : decode b_Checker_brokenRules 31 = .ok (.istore 4, 2) := by decide +kernel
theorem d_Checker_brokenRules_33 : decode b_Checker_brokenRules 33 = .ok (.iload_n 2, 1) := by decide +kernel
theorem d_Checker_brokenRules_34 : decode b_Checker_brokenRules 34 = .ok (.iconst 4, 1) := by decide +kernel
theorem d_Checker_brokenRules_35 : decode b_Checker_brokenRules 35 = .ok (.iand, 1) := by decide +kernel
theorem d_Checker_brokenRules_36 : decode b_Checker_brokenRules 36 = .ok (.ifCond .eq 12, 3) := by decide +kernel
theorem d_Checker_brokenRules_39 : decode b_Checker_brokenRules 39 = .ok (.iload 4, 2) := by decide +kernel
theorem d_Checker_brokenRules_41 : decode b_Checker_brokenRules 41 = .ok (.aload_n 1, 1) := by decide +kernel
theorem d_Checker_brokenRules_42 : decode b_Checker_brokenRules 42 = .ok (.invokestatic 48, 3) := by decide +kernel
theorem d_Checker_brokenRules_45 : decode b_Checker_brokenRules 45 = .ok (.ior, 1) := by decide +kernel
theorem d_Checker_brokenRules_46 : decode b_Checker_brokenRules 46 = .ok (.istore 4, 2) := by decide +kernel
theorem d_Checker_brokenRules_48 : decode b_Checker_brokenRules 48 = .ok (.aload_n 1, 1) := by decide +kernel
theorem d_Checker_brokenRules_49 : decode b_Checker_brokenRules 49 = .ok (.invokestatic 52, 3) := by decide +kernel
theorem d_Checker_brokenRules_52 : decode b_Checker_brokenRules 52 = .ok (.ifCond .eq 13, 3) := by decide +kernel
theorem d_Checker_brokenRules_55 : decode b_Checker_brokenRules 55 = .ok (.iload 4, 2) := by decide +kernel
theorem d_Checker_brokenRules_57 : decode b_Checker_brokenRules 57 = .ok (.bipush 6, 2) := by decide +kernel
theorem d_Checker_brokenRules_59 : decode b_Checker_brokenRules 59 = .ok (.invokestatic 45, 3) := by decide +kernel
theorem d_Checker_brokenRules_62 : decode b_Checker_brokenRules 62 = .ok (.ior, 1) := by decide +kernel
theorem d_Checker_brokenRules_63 : decode b_Checker_brokenRules 63 = .ok (.istore 4, 2) := by decide +kernel
theorem d_Checker_brokenRules_65 : decode b_Checker_brokenRules 65 = .ok (.aload_n 1, 1) := by decide +kernel
theorem d_Checker_brokenRules_66 : decode b_Checker_brokenRules 66 = .ok (.iconst 0, 1) := by decide +kernel
theorem d_Checker_brokenRules_67 : decode b_Checker_brokenRules 67 = .ok (.invokevirtual 28, 3) := by decide +kernel
theorem d_Checker_brokenRules_70 : decode b_Checker_brokenRules 70 = .ok (.invokestatic 55, 3) := by decide +kernel
theorem d_Checker_brokenRules_73 : decode b_Checker_brokenRules 73 = .ok (.ifCond .eq 13, 3) := by decide +kernel
theorem d_Checker_brokenRules_76 : decode b_Checker_brokenRules 76 = .ok (.iload 4, 2) := by decide +kernel
theorem d_Checker_brokenRules_78 : decode b_Checker_brokenRules 78 = .ok (.bipush 7, 2) := by decide +kernel
theorem d_Checker_brokenRules_80 : decode b_Checker_brokenRules 80 = .ok (.invokestatic 45, 3) := by decide +kernel
theorem d_Checker_brokenRules_83 : decode b_Checker_brokenRules 83 = .ok (.ior, 1) := by decide +kernel
theorem d_Checker_brokenRules_84 : decode b_Checker_brokenRules 84 = .ok (.istore 4, 2) := by decide +kernel
theorem d_Checker_brokenRules_86 : decode b_Checker_brokenRules 86 = .ok (.aload_n 1, 1) := by decide +kernel
theorem d_Checker_brokenRules_87 : decode b_Checker_brokenRules 87 = .ok (.iload_n 2, 1) := by decide +kernel
theorem d_Checker_brokenRules_88 : decode b_Checker_brokenRules 88 = .ok (.iconst 1, 1) := by decide +kernel
theorem d_Checker_brokenRules_89 : decode b_Checker_brokenRules 89 = .ok (.iand, 1) := by decide +kernel
theorem d_Checker_brokenRules_90 : decode b_Checker_brokenRules 90 = .ok (.ifCond .eq 7, 3) := by decide +kernel
theorem d_Checker_brokenRules_93 : decode b_Checker_brokenRules 93 = .ok (.iconst 1, 1) := by decide +kernel
theorem d_Checker_brokenRules_94 : decode b_Checker_brokenRules 94 = .ok (.goto 4, 3) := by decide +kernel
theorem d_Checker_brokenRules_97 : decode b_Checker_brokenRules 97 = .ok (.iconst 0, 1) := by decide +kernel
theorem d_Checker_brokenRules_98 : decode b_Checker_brokenRules 98 = .ok (.iload_n 2, 1) := by decide +kernel
theorem d_Checker_brokenRules_99 : decode b_Checker_brokenRules 99 = .ok (.iconst 2, 1) := by decide +kernel
theorem d_Checker_brokenRules_100 : decode b_Checker_brokenRules 100 = .ok (.iand, 1) := by decide +kernel
theorem d_Checker_brokenRules_101 : decode b_Checker_brokenRules 101 = .ok (.ifCond .eq 7, 3) := by decide +kernel
theorem d_Checker_brokenRules_104 : decode b_Checker_brokenRules 104 = .ok (.iconst 1, 1) := by decide +kernel
theorem d_Checker_brokenRules_105 : decode b_Checker_brokenRules 105 = .ok (.goto 4, 3) := by decide +kernel
theorem d_Checker_brokenRules_108 : decode b_Checker_brokenRules 108 = .ok (.iconst 0, 1) := by decide +kernel
theorem d_Checker_brokenRules_109 : decode b_Checker_brokenRules 109 = .ok (.invokestatic 60, 3) := by decide +kernel
theorem d_Checker_brokenRules_112 : decode b_Checker_brokenRules 112 = .ok (.ifCond .ne 13, 3) := by decide +kernel
theorem d_Checker_brokenRules_115 : decode b_Checker_brokenRules 115 = .ok (.iload 4, 2) := by decide +kernel
theorem d_Checker_brokenRules_117 : decode b_Checker_brokenRules 117 = .ok (.bipush 8, 2) := by decide +kernel
theorem d_Checker_brokenRules_119 : decode b_Checker_brokenRules 119 = .ok (.invokestatic 45, 3) := by decide +kernel
theorem d_Checker_brokenRules_122 : decode b_Checker_brokenRules 122 = .ok (.ior, 1) := by decide +kernel
theorem d_Checker_brokenRules_123 : decode b_Checker_brokenRules 123 = .ok (.istore 4, 2) := by decide +kernel
theorem d_Checker_brokenRules_125 : decode b_Checker_brokenRules 125 = .ok (.iload_n 2, 1) := by decide +kernel
theorem d_Checker_brokenRules_126 : decode b_Checker_brokenRules 126 = .ok (.bipush 8, 2) := by decide +kernel
theorem d_Checker_brokenRules_128 : decode b_Checker_brokenRules 128 = .ok (.iand, 1) := by decide +kernel
theorem d_Checker_brokenRules_129 : decode b_Checker_brokenRules 129 = .ok (.ifCond .eq 20, 3) := by decide +kernel
theorem d_Checker_brokenRules_132 : decode b_Checker_brokenRules 132 = .ok (.aload_n 1, 1) := by decide +kernel
theorem d_Checker_brokenRules_133 : decode b_Checker_brokenRules 133 = .ok (.invokestatic 64, 3) := by decide +kernel
theorem d_Checker_brokenRules_136 : decode b_Checker_brokenRules 136 = .ok (.ifCond .ne 13, 3) := by decide +kernel
theorem d_Checker_brokenRules_139 : decode b_Checker_brokenRules 139 = .ok (.iload 4, 2) := by decide +kernel
theorem d_Checker_brokenRules_141 : decode b_Checker_brokenRules 141 = .ok (.bipush 9, 2) := by decide +kernel
theorem d_Checker_brokenRules_143 : decode b_Checker_brokenRules 143 = .ok (.invokestatic 45, 3) := by decide +kernel
theorem d_Checker_brokenRules_146 : decode b_Checker_brokenRules 146 = .ok (.ior, 1) := by decide +kernel
theorem d_Checker_brokenRules_147 : decode b_Checker_brokenRules 147 = .ok (.istore 4, 2) := by decide +kernel
theorem d_Checker_brokenRules_149 : decode b_Checker_brokenRules 149 = .ok (.iload_n 3, 1) := by decide +kernel
theorem d_Checker_brokenRules_150 : decode b_Checker_brokenRules 150 = .ok (.ifCond .eq 20, 3) := by decide +kernel
theorem d_Checker_brokenRules_153 : decode b_Checker_brokenRules 153 = .ok (.aload_n 1, 1) := by decide +kernel
theorem d_Checker_brokenRules_154 : decode b_Checker_brokenRules 154 = .ok (.invokestatic 67, 3) := by decide +kernel
theorem d_Checker_brokenRules_157 : decode b_Checker_brokenRules 157 = .ok (.ifCond .ne 13, 3) := by decide +kernel
theorem d_Checker_brokenRules_160 : decode b_Checker_brokenRules 160 = .ok (.iload 4, 2) := by decide +kernel
theorem d_Checker_brokenRules_162 : decode b_Checker_brokenRules 162 = .ok (.bipush 10, 2) := by decide +kernel
theorem d_Checker_brokenRules_164 : decode b_Checker_brokenRules 164 = .ok (.invokestatic 45, 3) := by decide +kernel
theorem d_Checker_brokenRules_167 : decode b_Checker_brokenRules 167 = .ok (.ior, 1) := by decide +kernel
theorem d_Checker_brokenRules_168 : decode b_Checker_brokenRules 168 = .ok (.istore 4, 2) := by decide +kernel
theorem d_Checker_brokenRules_170 : decode b_Checker_brokenRules 170 = .ok (.iload 4, 2) := by decide +kernel
theorem d_Checker_brokenRules_172 : decode b_Checker_brokenRules 172 = .ok (.ireturn, 1) := by decide +kernel
theorem d_Checker_brokenHyphenRules_0 : decode b_Checker_brokenHyphenRules 0 = .ok (.iconst 0, 1) := by decide +kernel
theorem d_Checker_brokenHyphenRules_1 : decode b_Checker_brokenHyphenRules 1 = .ok (.istore_n 1, 1) := by decide +kernel
theorem d_Checker_brokenHyphenRules_2 : decode b_Checker_brokenHyphenRules 2 = .ok (.aload_n 0, 1) := by decide +kernel
theorem d_Checker_brokenHyphenRules_3 : decode b_Checker_brokenHyphenRules 3 = .ok (.iconst 2, 1) := by decide +kernel
theorem d_Checker_brokenHyphenRules_4 : decode b_Checker_brokenHyphenRules 4 = .ok (.invokevirtual 28, 3) := by decide +kernel
theorem d_Checker_brokenHyphenRules_7 : decode b_Checker_brokenHyphenRules 7 = .ok (.bipush 45, 2) := by decide +kernel
theorem d_Checker_brokenHyphenRules_9 : decode b_Checker_brokenHyphenRules 9 = .ok (.if_icmp .ne 20, 3) := by decide +kernel
theorem d_Checker_brokenHyphenRules_12 : decode b_Checker_brokenHyphenRules 12 = .ok (.aload_n 0, 1) := by decide +kernel
theorem d_Checker_brokenHyphenRules_13 : decode b_Checker_brokenHyphenRules 13 = .ok (.iconst 3, 1) := by decide +kernel
theorem d_Checker_brokenHyphenRules_14 : decode b_Checker_brokenHyphenRules 14 = .ok (.invokevirtual 28, 3) := by decide +kernel
theorem d_Checker_brokenHyphenRules_17 : decode b_Checker_brokenHyphenRules 17 = .ok (.bipush 45, 2) := by decide +kernel
theorem d_Checker_brokenHyphenRules_19 : decode b_Checker_brokenHyphenRules 19 = .ok (.if_icmp .ne 10, 3) := by decide +kernel
theorem d_Checker_brokenHyphenRules_22 : decode b_Checker_brokenHyphenRules 22 = .ok (.iload_n 1, 1) := by decide +kernel
theorem d_Checker_brokenHyphenRules_23 : decode b_Checker_brokenHyphenRules 23 = .ok (.iconst 4, 1) := by decide +kernel
theorem d_Checker_brokenHyphenRules_24 : decode b_Checker_brokenHyphenRules 24 = .ok (.invokestatic 45, 3) := by decide +kernel
theorem d_Checker_brokenHyphenRules_27 : decode b_Checker_brokenHyphenRules 27 = .ok (.ior, 1) := by decide +kernel
theorem d_Checker_brokenHyphenRules_28 : decode b_Checker_brokenHyphenRules 28 = .ok (.istore_n 1, 1) := by decide +kernel
theorem d_Checker_brokenHyphenRules_29 : decode b_Checker_brokenHyphenRules 29 = .ok (.aload_n 0, 1) := by decide +kernel
theorem d_Checker_brokenHyphenRules_30 : decode b_Checker_brokenHyphenRules 30 = .ok (.iconst 0, 1) := by decide +kernel
theorem d_Checker_brokenHyphenRules_31 : decode b_Checker_brokenHyphenRules 31 = .ok (.invokevirtual 28, 3) := by decide +kernel
theorem d_Checker_brokenHyphenRules_34 : decode b_Checker_brokenHyphenRules 34 = .ok (.bipush 45, 2) := by decide +kernel
theorem d_Checker_brokenHyphenRules_36 : decode b_Checker_brokenHyphenRules 36 = .ok (.if_icmp .eq 18, 3) := by decide +kernel
theorem d_Checker_brokenHyphenRules_39 : decode b_Checker_brokenHyphenRules 39 = .ok (.aload_n 0, 1) := by decide +kernel
theorem d_Checker_brokenHyphenRules_40 : decode b_Checker_brokenHyphenRules 40 = .ok (.aload_n 0, 1) := by decide +kernel
theorem d_Checker_brokenHyphenRules_41 : decode b_Checker_brokenHyphenRules 41 = .ok (.invokevirtual 70, 3) := by decide +kernel
theorem d_Checker_brokenHyphenRules_44 : decode b_Checker_brokenHyphenRules 44 = .ok (.iconst 1, 1) := by decide +kernel
theorem d_Checker_brokenHyphenRules_45 : decode b_Checker_brokenHyphenRules 45 = .ok (.isub, 1) := by decide +kernel
theorem d_Checker_brokenHyphenRules_46 : decode b_Checker_brokenHyphenRules 46 = .ok (.invokevirtual 28, 3) := by decide +kernel
theorem d_Checker_brokenHyphenRules_49 : decode b_Checker_brokenHyphenRules 49 = .ok (.bipush 45, 2) := by decide +kernel
theorem d_Checker_brokenHyphenRules_51 : decode b_Checker_brokenHyphenRules 51 = .ok (.if_icmp .ne 10, 3) := by decide +kernel
theorem d_Checker_brokenHyphenRules_54 : decode b_Checker_brokenHyphenRules 54 = .ok (.iload_n 1, 1) := by decide +kernel
theorem d_Checker_brokenHyphenRules_55 : decode b_Checker_brokenHyphenRules 55 = .ok (.iconst 5, 1) := by decide +kernel
theorem d_Checker_brokenHyphenRules_56 : decode b_Checker_brokenHyphenRules 56 = .ok (.invokestatic 45, 3) := by decide +kernel
theorem d_Checker_brokenHyphenRules_59 : decode b_Checker_brokenHyphenRules 59 = .ok (.ior, 1) := by decide +kernel
theorem d_Checker_brokenHyphenRules_60 : decode b_Checker_brokenHyphenRules 60 = .ok (.istore_n 1, 1) := by decide +kernel
theorem d_Checker_brokenHyphenRules_61 : decode b_Checker_brokenHyphenRules 61 = .ok (.iload_n 1, 1) := by decide +kernel
theorem d_Checker_brokenHyphenRules_62 : decode b_Checker_brokenHyphenRules 62 = .ok (.ireturn, 1) := by decide +kernel
theorem d_Checker_isAllGood_0 : decode b_Checker_isAllGood 0 = .ok (.iconst 0, 1) := by decide +kernel
theorem d_Checker_isAllGood_1 : decode b_Checker_isAllGood 1 = .ok (.istore_n 3, 1) := by decide +kernel
theorem d_Checker_isAllGood_2 : decode b_Checker_isAllGood 2 = .ok (.iload_n 3, 1) := by decide +kernel
theorem d_Checker_isAllGood_3 : decode b_Checker_isAllGood 3 = .ok (.aload_n 0, 1) := by decide +kernel
theorem d_Checker_isAllGood_4 : decode b_Checker_isAllGood 4 = .ok (.invokevirtual 70, 3) := by decide +kernel
theorem d_Checker_isAllGood_7 : decode b_Checker_isAllGood 7 = .ok (.if_icmp .ge 24, 3) := by decide +kernel
theorem d_Checker_isAllGood_10 : decode b_Checker_isAllGood 10 = .ok (.aload_n 0, 1) := by decide +kernel
theorem d_Checker_isAllGood_11 : decode b_Checker_isAllGood 11 = .ok (.iload_n 3, 1) := by decide +kernel
theorem d_Checker_isAllGood_12 : decode b_Checker_isAllGood 12 = .ok (.invokevirtual 28, 3) := by decide +kernel
theorem d_Checker_isAllGood_15 : decode b_Checker_isAllGood 15 = .ok (.iload_n 1, 1) := by decide +kernel
theorem d_Checker_isAllGood_16 : decode b_Checker_isAllGood 16 = .ok (.iload_n 2, 1) := by decide +kernel
theorem d_Checker_isAllGood_17 : decode b_Checker_isAllGood 17 = .ok (.invokestatic 74, 3) := by decide +kernel
theorem d_Checker_isAllGood_20 : decode b_Checker_isAllGood 20 = .ok (.ifCond .ne 5, 3) := by decide +kernel
theorem d_Checker_isAllGood_23 : decode b_Checker_isAllGood 23 = .ok (.iconst 0, 1) := by decide +kernel
theorem d_Checker_isAllGood_24 : decode b_Checker_isAllGood 24 = .ok (.ireturn, 1) := by decide +kernel
theorem d_Checker_isAllGood_25 : decode b_Checker_isAllGood 25 = .ok (.iinc 3 1, 3) := by decide +kernel
theorem d_Checker_isAllGood_28 : decode b_Checker_isAllGood 28 = .ok (.goto (-26), 3) := by decide +kernel
theorem d_Checker_isAllGood_31 : decode b_Checker_isAllGood 31 = .ok (.iconst 1, 1) := by decide +kernel
theorem d_Checker_isAllGood_32 : decode b_Checker_isAllGood 32 = .ok (.ireturn, 1) := by decide +kernel
theorem d_Checker_areJoinersRight_0 : decode b_Checker_areJoinersRight 0 = .ok (.iconst 0, 1) := by decide +kernel
theorem d_Checker_areJoinersRight_1 : decode b_Checker_areJoinersRight 1 = .ok (.istore_n 1, 1) := by decide +kernel
theorem d_Checker_areJoinersRight_2 : decode b_Checker_areJoinersRight 2 = .ok (.iload_n 1, 1) := by decide +kernel
theorem d_Checker_areJoinersRight_3 : decode b_Checker_areJoinersRight 3 = .ok (.aload_n 0, 1) := by decide +kernel
theorem d_Checker_areJoinersRight_4 : decode b_Checker_areJoinersRight 4 = .ok (.invokevirtual 70, 3) := by decide +kernel
theorem d_Checker_areJoinersRight_7 : decode b_Checker_areJoinersRight 7 = .ok (.if_icmp .ge 70, 3) := by decide +kernel
theorem d_Checker_areJoinersRight_10 : decode b_Checker_areJoinersRight 10 = .ok (.aload_n 0, 1) := by decide +kernel
theorem d_Checker_areJoinersRight_11 : decode b_Checker_areJoinersRight 11 = .ok (.iload_n 1, 1) := by decide +kernel
theorem d_Checker_areJoinersRight_12 : decode b_Checker_areJoinersRight 12 = .ok (.invokevirtual 28, 3) := by decide +kernel
theorem d_Checker_areJoinersRight_15 : decode b_Checker_areJoinersRight 15 = .ok (.istore_n 2, 1) := by decide +kernel
theorem d_Checker_areJoinersRight_16 : decode b_Checker_areJoinersRight 16 = .ok (.aload_n 0, 1) := by decide +kernel
theorem d_Checker_areJoinersRight_17 : decode b_Checker_areJoinersRight 17 = .ok (.iload_n 1, 1) := by decide +kernel
theorem d_Checker_areJoinersRight_18 : decode b_Checker_areJoinersRight 18 = .ok (.iconst 1, 1) := by decide +kernel
theorem d_Checker_areJoinersRight_19 : decode b_Checker_areJoinersRight 19 = .ok (.isub, 1) := by decide +kernel
theorem d_Checker_areJoinersRight_20 : decode b_Checker_areJoinersRight 20 = .ok (.invokevirtual 28, 3) := by decide +kernel
theorem d_Checker_areJoinersRight_23 : decode b_Checker_areJoinersRight 23 = .ok (.invokestatic 78, 3) := by decide +kernel
theorem d_Checker_areJoinersRight_26 : decode b_Checker_areJoinersRight 26 = .ok (.bipush 9, 2) := by decide +kernel
theorem d_Checker_areJoinersRight_28 : decode b_Checker_areJoinersRight 28 = .ok (.if_icmp .ne 7, 3) := by decide +kernel
theorem d_Checker_areJoinersRight_31 : decode b_Checker_areJoinersRight 31 = .ok (.iconst 1, 1) := by decide +kernel
theorem d_Checker_areJoinersRight_32 : decode b_Checker_areJoinersRight 32 = .ok (.goto 4, 3) := by decide +kernel
theorem d_Checker_areJoinersRight_35 : decode b_Checker_areJoinersRight 35 = .ok (.iconst 0, 1) := by decide +kernel
theorem d_Checker_areJoinersRight_36 : decode b_Checker_areJoinersRight 36 = .ok (.istore_n 3, 1) := by decide +kernel
theorem d_Checker_areJoinersRight_37 : decode b_Checker_areJoinersRight 37 = .ok (.iload_n 2, 1) := by decide +kernel
theorem d_Checker_areJoinersRight_38 : decode b_Checker_areJoinersRight 38 = .ok (.sipush 8205, 3) := by decide +kernel
theorem d_Checker_areJoinersRight_41 : decode b_Checker_areJoinersRight 41 = .ok (.if_icmp .ne 9, 3) := by decide +kernel
theorem d_Checker_areJoinersRight_44 : decode b_Checker_areJoinersRight 44 = .ok (.iload_n 3, 1) := by decide +kernel
theorem d_Checker_areJoinersRight_45 : decode b_Checker_areJoinersRight 45 = .ok (.ifCond .ne 5, 3) := by decide +kernel
theorem d_Checker_areJoinersRight_48 : decode b_Checker_areJoinersRight 48 = .ok (.iconst 0, 1) := by decide +kernel
theorem d_Checker_areJoinersRight_49 : decode b_Checker_areJoinersRight 49 = .ok (.ireturn, 1) := by decide +kernel
theorem d_Checker_areJoinersRight_50 : decode b_Checker_areJoinersRight 50 = .ok (.iload_n 2, 1) := by decide +kernel
theorem d_Checker_areJoinersRight_51 : decode b_Checker_areJoinersRight 51 = .ok (.sipush 8204, 3) := by decide +kernel
theorem d_Checker_areJoinersRight_54 : decode b_Checker_areJoinersRight 54 = .ok (.if_icmp .ne 17, 3) := by decide +kernel
theorem d_Checker_areJoinersRight_57 : decode b_Checker_areJoinersRight 57 = .ok (.iload_n 3, 1) := by decide +kernel
theorem d_Checker_areJoinersRight_58 : decode b_Checker_areJoinersRight 58 = .ok (.ifCond .ne 13, 3) := by decide +kernel
theorem d_Checker_areJoinersRight_61 : decode b_Checker_areJoinersRight 61 = .ok (.aload_n 0, 1) := by decide +kernel
theorem d_Checker_areJoinersRight_62 : decode b_Checker_areJoinersRight 62 = .ok (.iload_n 1, 1) := by decide +kernel
theorem d_Checker_areJoinersRight_63 : decode b_Checker_areJoinersRight 63 = .ok (.invokestatic 81, 3) := by decide +kernel
theorem d_Checker_areJoinersRight_66 : decode b_Checker_areJoinersRight 66 = .ok (.ifCond .ne 5, 3) := by decide +kernel
theorem d_Checker_areJoinersRight_69 : decode b_Checker_areJoinersRight 69 = .ok (.iconst 0, 1) := by decide +kernel
theorem d_Checker_areJoinersRight_70 : decode b_Checker_areJoinersRight 70 = .ok (.ireturn, 1) := by decide +kernel
theorem d_Checker_areJoinersRight_71 : decode b_Checker_areJoinersRight 71 = .ok (.iinc 1 1, 3) := by decide +kernel
theorem d_Checker_areJoinersRight_74 : decode b_Checker_areJoinersRight 74 = .ok (.goto (-72), 3) := by decide +kernel
theorem d_Checker_areJoinersRight_77 : decode b_Checker_areJoinersRight 77 = .ok (.iconst 1, 1) := by decide +kernel
theorem d_Checker_areJoinersRight_78 : decode b_Checker_areJoinersRight 78 = .ok (.ireturn, 1) := by decide +kernel
theorem d_Checker_isBetweenJoining_0 : decode b_Checker_isBetweenJoining 0 = .ok (.aload_n 0, 1) := by decide +kernel
theorem d_Checker_isBetweenJoining_1 : decode b_Checker_isBetweenJoining 1 = .ok (.iload_n 1, 1) := by decide +kernel
theorem d_Checker_isBetweenJoining_2 : decode b_Checker_isBetweenJoining 2 = .ok (.iconst (-1), 1) := by decide +kernel
theorem d_Checker_isBetweenJoining_3 : decode b_Checker_isBetweenJoining 3 = .ok (.invokestatic 85, 3) := by decide +kernel
theorem d_Checker_isBetweenJoining_6 : decode b_Checker_isBetweenJoining 6 = .ok (.istore_n 2, 1) := by decide +kernel
theorem d_Checker_isBetweenJoining_7 : decode b_Checker_isBetweenJoining 7 = .ok (.aload_n 0, 1) := by decide +kernel
theorem d_Checker_isBetweenJoining_8 : decode b_Checker_isBetweenJoining 8 = .ok (.iload_n 1, 1) := by decide +kernel
theorem d_Checker_isBetweenJoining_9 : decode b_Checker_isBetweenJoining 9 = .ok (.iconst 1, 1) := by decide +kernel
theorem d_Checker_isBetweenJoining_10 : decode b_Checker_isBetweenJoining 10 = .ok (.invokestatic 85, 3) := by decide +kernel
theorem d_Checker_isBetweenJoining_13 : decode b_Checker_isBetweenJoining 13 = .ok (.istore_n 3, 1) := by decide +kernel
theorem d_Checker_isBetweenJoining_14 : decode b_Checker_isBetweenJoining 14 = .ok (.iload_n 3, 1) := by decide +kernel
theorem d_Checker_isBetweenJoining_15 : decode b_Checker_isBetweenJoining 15 = .ok (.iconst 1, 1) := by decide +kernel
theorem d_Checker_isBetweenJoining_16 : decode b_Checker_isBetweenJoining 16 = .ok (.if_icmp .eq 8, 3) := by decide +kernel
theorem d_Checker_isBetweenJoining_19 : decode b_Checker_isBetweenJoining 19 = .ok (.iload_n 3, 1) := by decide +kernel
theorem d_Checker_isBetweenJoining_20 : decode b_Checker_isBetweenJoining 20 = .ok (.iconst 2, 1) := by decide +kernel
theorem d_Checker_isBetweenJoining_21 : decode b_Checker_isBetweenJoining 21 = .ok (.if_icmp .ne 7, 3) := by decide +kernel
theorem d_Checker_isBetweenJoining_24 : decode b_Checker_isBetweenJoining 24 = .ok (.iconst 1, 1) := by decide +kernel
theorem d_Checker_isBetweenJoining_25 : decode b_Checker_isBetweenJoining 25 = .ok (.goto 4, 3) := by decide +kernel
theorem d_Checker_isBetweenJoining_28 : decode b_Checker_isBetweenJoining 28 = .ok (.iconst 0, 1) := by decide +kernel
theorem d_Checker_isBetweenJoining_29 : decode b_Checker_isBetweenJoining 29 = .ok (.istore 4, 2) := by decide +kernel
theorem d_Checker_isBetweenJoining_31 : decode b_Checker_isBetweenJoining 31 = .ok (.iload_n 2, 1) := by decide +kernel
theorem d_Checker_isBetweenJoining_32 : decode b_Checker_isBetweenJoining 32 = .ok (.iconst 2, 1) := by decide +kernel
theorem d_Checker_isBetweenJoining_33 : decode b_Checker_isBetweenJoining 33 = .ok (.if_icmp .ne 12, 3) := by decide +kernel
theorem d_Checker_isBetweenJoining_36 : decode b_Checker_isBetweenJoining 36 = .ok (.iload 4, 2) := by decide +kernel
theorem d_Checker_isBetweenJoining_38 : decode b_Checker_isBetweenJoining 38 = .ok (.ifCond .eq 7, 3) := by decide +kernel
theorem d_Checker_isBetweenJoining_41 : decode b_Checker_isBetweenJoining 41 = .ok (.iconst 1, 1) := by decide +kernel
theorem d_Checker_isBetweenJoining_42 : decode b_Checker_isBetweenJoining 42 = .ok (.goto 4, 3) := by decide +kernel
theorem d_Checker_isBetweenJoining_45 : decode b_Checker_isBetweenJoining 45 = .ok (.iconst 0, 1) := by decide +kernel
theorem d_Checker_isBetweenJoining_46 : decode b_Checker_isBetweenJoining 46 = .ok (.ireturn, 1) := by decide +kernel
theorem d_Checker_joiningBeyond_0 : decode b_Checker_joiningBeyond 0 = .ok (.iload_n 1, 1) := by decide +kernel
theorem d_Checker_joiningBeyond_1 : decode b_Checker_joiningBeyond 1 = .ok (.iload_n 2, 1) := by decide +kernel
theorem d_Checker_joiningBeyond_2 : decode b_Checker_joiningBeyond 2 = .ok (.iadd, 1) := by decide +kernel
theorem d_Checker_joiningBeyond_3 : decode b_Checker_joiningBeyond 3 = .ok (.istore_n 3, 1) := by decide +kernel
theorem d_Checker_joiningBeyond_4 : decode b_Checker_joiningBeyond 4 = .ok (.iload_n 3, 1) := by decide +kernel
theorem d_Checker_joiningBeyond_5 : decode b_Checker_joiningBeyond 5 = .ok (.ifCond .lt 37, 3) := by decide +kernel
theorem d_Checker_joiningBeyond_8 : decode b_Checker_joiningBeyond 8 = .ok (.iload_n 3, 1) := by decide +kernel
theorem d_Checker_joiningBeyond_9 : decode b_Checker_joiningBeyond 9 = .ok (.aload_n 0, 1) := by decide +kernel
theorem d_Checker_joiningBeyond_10 : decode b_Checker_joiningBeyond 10 = .ok (.invokevirtual 70, 3) := by decide +kernel
theorem d_Checker_joiningBeyond_13 : decode b_Checker_joiningBeyond 13 = .ok (.if_icmp .ge 29, 3) := by decide +kernel
theorem d_Checker_joiningBeyond_16 : decode b_Checker_joiningBeyond 16 = .ok (.aload_n 0, 1) := by decide +kernel
theorem d_Checker_joiningBeyond_17 : decode b_Checker_joiningBeyond 17 = .ok (.iload_n 3, 1) := by decide +kernel
theorem d_Checker_joiningBeyond_18 : decode b_Checker_joiningBeyond 18 = .ok (.invokevirtual 28, 3) := by decide +kernel
theorem d_Checker_joiningBeyond_21 : decode b_Checker_joiningBeyond 21 = .ok (.invokestatic 89, 3) := by decide +kernel
theorem d_Checker_joiningBeyond_24 : decode b_Checker_joiningBeyond 24 = .ok (.istore 4, 2) := by decide +kernel
theorem d_Checker_joiningBeyond_26 : decode b_Checker_joiningBeyond 26 = .ok (.iload 4, 2) := by decide +kernel
theorem d_Checker_joiningBeyond_28 : decode b_Checker_joiningBeyond 28 = .ok (.iconst 3, 1) := by decide +kernel
theorem d_Checker_joiningBeyond_29 : decode b_Checker_joiningBeyond 29 = .ok (.if_icmp .eq 6, 3) := by decide +kernel
theorem d_Checker_joiningBeyond_32 : decode b_Checker_joiningBeyond 32 = .ok (.iload 4, 2) := by decide +kernel
theorem d_Checker_joiningBeyond_34 : decode b_Checker_joiningBeyond 34 = .ok (.ireturn, 1) := by decide +kernel
theorem d_Checker_joiningBeyond_35 : decode b_Checker_joiningBeyond 35 = .ok (.iload_n 3, 1) := by decide +kernel
theorem d_Checker_joiningBeyond_36 : decode b_Checker_joiningBeyond 36 = .ok (.iload_n 2, 1) := by decide +kernel
theorem d_Checker_joiningBeyond_37 : decode b_Checker_joiningBeyond 37 = .ok (.iadd, 1) := by decide +kernel
theorem d_Checker_joiningBeyond_38 : decode b_Checker_joiningBeyond 38 = .ok (.istore_n 3, 1) := by decide +kernel
theorem d_Checker_joiningBeyond_39 : decode b_Checker_joiningBeyond 39 = .ok (.goto (-35), 3) := by decide +kernel
theorem d_Checker_joiningBeyond_42 : decode b_Checker_joiningBeyond 42 = .ok (.iconst 0, 1) := by decide +kernel
theorem d_Checker_joiningBeyond_43 : decode b_Checker_joiningBeyond 43 = .ok (.ireturn, 1) := by decide +kernel
theorem d_Checker_isDirectionRight_0 : decode b_Checker_isDirectionRight 0 = .ok (.aload_n 0, 1) := by decide +kernel
theorem d_Checker_isDirectionRight_1 : decode b_Checker_isDirectionRight 1 = .ok (.iconst 0, 1) := by decide +kernel
theorem d_Checker_isDirectionRight_2 : decode b_Checker_isDirectionRight 2 = .ok (.invokevirtual 28, 3) := by decide +kernel
theorem d_Checker_isDirectionRight_5 : decode b_Checker_isDirectionRight 5 = .ok (.invokestatic 92, 3) := by decide +kernel
theorem d_Checker_isDirectionRight_8 : decode b_Checker_isDirectionRight 8 = .ok (.istore_n 1, 1) := by decide +kernel
theorem d_Checker_isDirectionRight_9 : decode b_Checker_isDirectionRight 9 = .ok (.iconst 0, 1) := by decide +kernel
theorem d_Checker_isDirectionRight_10 : decode b_Checker_isDirectionRight 10 = .ok (.istore_n 2, 1) := by decide +kernel
theorem d_Checker_isDirectionRight_11 : decode b_Checker_isDirectionRight 11 = .ok (.iload_n 1, 1) := by decide +kernel
theorem d_Checker_isDirectionRight_12 : decode b_Checker_isDirectionRight 12 = .ok (.istore_n 3, 1) := by decide +kernel
theorem d_Checker_isDirectionRight_13 : decode b_Checker_isDirectionRight 13 = .ok (.iconst 0, 1) := by decide +kernel
theorem d_Checker_isDirectionRight_14 : decode b_Checker_isDirectionRight 14 = .ok (.istore 4, 2) := by decide +kernel
theorem d_Checker_isDirectionRight_16 : decode b_Checker_isDirectionRight 16 = .ok (.iload 4, 2) := by decide +kernel
theorem d_Checker_isDirectionRight_18 : decode b_Checker_isDirectionRight 18 = .ok (.aload_n 0, 1) := by decide +kernel
theorem d_Checker_isDirectionRight_19 : decode b_Checker_isDirectionRight 19 = .ok (.invokevirtual 70, 3) := by decide +kernel
theorem d_Checker_isDirectionRight_22 : decode b_Checker_isDirectionRight 22 = .ok (.if_icmp .ge 39, 3) := by decide +kernel
theorem d_Checker_isDirectionRight_25 : decode b_Checker_isDirectionRight 25 = .ok (.aload_n 0, 1) := by decide +kernel
theorem d_Checker_isDirectionRight_26 : decode b_Checker_isDirectionRight 26 = .ok (.iload 4, 2) := by decide +kernel
theorem d_Checker_isDirectionRight_28 : decode b_Checker_isDirectionRight 28 = .ok (.invokevirtual 28, 3) := by decide +kernel
theorem d_Checker_isDirectionRight_31 : decode b_Checker_isDirectionRight 31 = .ok (.invokestatic 92, 3) := by decide +kernel
theorem d_Checker_isDirectionRight_34 : decode b_Checker_isDirectionRight 34 = .ok (.istore 5, 2) := by decide +kernel
theorem d_Checker_isDirectionRight_36 : decode b_Checker_isDirectionRight 36 = .ok (.iload_n 2, 1) := by decide +kernel
theorem d_Checker_isDirectionRight_37 : decode b_Checker_isDirectionRight 37 = .ok (.iload 5, 2) := by decide +kernel
theorem d_Checker_isDirectionRight_39 : decode b_Checker_isDirectionRight 39 = .ok (.ior, 1) := by decide +kernel
theorem d_Checker_isDirectionRight_40 : decode b_Checker_isDirectionRight 40 = .ok (.istore_n 2, 1) := by decide +kernel
theorem d_Checker_isDirectionRight_41 : decode b_Checker_isDirectionRight 41 = .ok (.iload 5, 2) := by decide +kernel
theorem d_Checker_isDirectionRight_43 : decode b_Checker_isDirectionRight 43 = .ok (.bipush 64, 2) := by decide +kernel
theorem d_Checker_isDirectionRight_45 : decode b_Checker_isDirectionRight 45 = .ok (.if_icmp .ne 7, 3) := by decide +kernel
theorem d_Checker_isDirectionRight_48 : decode b_Checker_isDirectionRight 48 = .ok (.iload_n 3, 1) := by decide +kernel
theorem d_Checker_isDirectionRight_49 : decode b_Checker_isDirectionRight 49 = .ok (.goto 5, 3) := by decide +kernel
theorem d_Checker_isDirectionRight_52 : decode b_Checker_isDirectionRight 52 = .ok (.iload 5, 2) := by decide +kernel
theorem d_Checker_isDirectionRight_54 : decode b_Checker_isDirectionRight 54 = .ok (.istore_n 3, 1) := by decide +kernel
theorem d_Checker_isDirectionRight_55 : decode b_Checker_isDirectionRight 55 = .ok (.iinc 4 1, 3) := by decide +kernel
theorem d_Checker_isDirectionRight_58 : decode b_Checker_isDirectionRight 58 = .ok (.goto (-42), 3) := by decide +kernel
theorem d_Checker_isDirectionRight_61 : decode b_Checker_isDirectionRight 61 = .ok (.iload_n 1, 1) := by decide +kernel
theorem d_Checker_isDirectionRight_62 : decode b_Checker_isDirectionRight 62 = .ok (.iconst 1, 1) := by decide +kernel
theorem d_Checker_isDirectionRight_63 : decode b_Checker_isDirectionRight 63 = .ok (.if_icmp .ne 35, 3) := by decide +kernel
theorem d_Checker_isDirectionRight_66 : decode b_Checker_isDirectionRight 66 = .ok (.iload_n 2, 1) := by decide +kernel
theorem d_Checker_isDirectionRight_67 : decode b_Checker_isDirectionRight 67 = .ok (.bipush 14, 2) := by decide +kernel
theorem d_Checker_isDirectionRight_69 : decode b_Checker_isDirectionRight 69 = .ok (.iand, 1) := by decide +kernel
theorem d_Checker_isDirectionRight_70 : decode b_Checker_isDirectionRight 70 = .ok (.ifCond .eq 7, 3) := by decide +kernel
theorem d_Checker_isDirectionRight_73 : decode b_Checker_isDirectionRight 73 = .ok (.iconst 1, 1) := by decide +kernel
theorem d_Checker_isDirectionRight_74 : decode b_Checker_isDirectionRight 74 = .ok (.goto 4, 3) := by decide +kernel
theorem d_Checker_isDirectionRight_77 : decode b_Checker_isDirectionRight 77 = .ok (.iconst 0, 1) := by decide +kernel
theorem d_Checker_isDirectionRight_78 : decode b_Checker_isDirectionRight 78 = .ok (.istore 4, 2) := by decide +kernel
theorem d_Checker_isDirectionRight_80 : decode b_Checker_isDirectionRight 80 = .ok (.iload 4, 2) := by decide +kernel
theorem d_Checker_isDirectionRight_82 : decode b_Checker_isDirectionRight 82 = .ok (.ifCond .ne 14, 3) := by decide +kernel
theorem d_Checker_isDirectionRight_85 : decode b_Checker_isDirectionRight 85 = .ok (.iload_n 3, 1) := by decide +kernel
theorem d_Checker_isDirectionRight_86 : decode b_Checker_isDirectionRight 86 = .ok (.bipush 17, 2) := by decide +kernel
theorem d_Checker_isDirectionRight_88 : decode b_Checker_isDirectionRight 88 = .ok (.iand, 1) := by decide +kernel
theorem d_Checker_isDirectionRight_89 : decode b_Checker_isDirectionRight 89 = .ok (.ifCond .eq 7, 3) := by decide +kernel
theorem d_Checker_isDirectionRight_92 : decode b_Checker_isDirectionRight 92 = .ok (.iconst 1, 1) := by decide +kernel
theorem d_Checker_isDirectionRight_93 : decode b_Checker_isDirectionRight 93 = .ok (.goto 4, 3) := by decide +kernel
theorem d_Checker_isDirectionRight_96 : decode b_Checker_isDirectionRight 96 = .ok (.iconst 0, 1) := by decide +kernel
theorem d_Checker_isDirectionRight_97 : decode b_Checker_isDirectionRight 97 = .ok (.ireturn, 1) := by decide +kernel
theorem d_Checker_isDirectionRight_98 : decode b_Checker_isDirectionRight 98 = .ok (.iload_n 1, 1) := by decide +kernel
theorem d_Checker_isDirectionRight_99 : decode b_Checker_isDirectionRight 99 = .ok (.iconst 2, 1) := by decide +kernel
theorem d_Checker_isDirectionRight_100 : decode b_Checker_isDirectionRight 100 = .ok (.if_icmp .eq 10, 3) := by decide +kernel
theorem d_Checker_isDirectionRight_103 : decode b_Checker_isDirectionRight 103 = .ok (.iload_n 1, 1) := by decide +kernel
theorem d_Checker_isDirectionRight_104 : decode b_Checker_isDirectionRight 104 = .ok (.iconst 4, 1) := by decide +kernel
theorem d_Checker_isDirectionRight_105 : decode b_Checker_isDirectionRight 105 = .ok (.if_icmp .eq 5, 3) := by decide +kernel
theorem d_Checker_isDirectionRight_108 : decode b_Checker_isDirectionRight 108 = .ok (.iconst 0, 1) := by decide +kernel
theorem d_Checker_isDirectionRight_109 : decode b_Checker_isDirectionRight 109 = .ok (.ireturn, 1) := by decide +kernel
theorem d_Checker_isDirectionRight_110 : decode b_Checker_isDirectionRight 110 = .ok (.iload_n 2, 1) := by decide +kernel
theorem d_Checker_isDirectionRight_111 : decode b_Checker_isDirectionRight 111 = .ok (.bipush 16, 2) := by decide +kernel
theorem d_Checker_isDirectionRight_113 : decode b_Checker_isDirectionRight 113 = .ok (.iand, 1) := by decide +kernel
theorem d_Checker_isDirectionRight_114 : decode b_Checker_isDirectionRight 114 = .ok (.ifCond .eq 14, 3) := by decide +kernel
theorem d_Checker_isDirectionRight_117 : decode b_Checker_isDirectionRight 117 = .ok (.iload_n 2, 1) := by decide +kernel
theorem d_Checker_isDirectionRight_118 : decode b_Checker_isDirectionRight 118 = .ok (.bipush 8, 2) := by decide +kernel
theorem d_Checker_isDirectionRight_120 : decode b_Checker_isDirectionRight 120 = .ok (.iand, 1) := by decide +kernel
theorem d_Checker_isDirectionRight_121 : decode b_Checker_isDirectionRight 121 = .ok (.ifCond .eq 7, 3) := by decide +kernel
theorem d_Checker_isDirectionRight_124 : decode b_Checker_isDirectionRight 124 = .ok (.iconst 1, 1) := by decide +kernel
theorem d_Checker_isDirectionRight_125 : decode b_Checker_isDirectionRight 125 = .ok (.goto 4, 3) := by decide +kernel
theorem d_Checker_isDirectionRight_128 : decode b_Checker_isDirectionRight 128 = .ok (.iconst 0, 1) := by decide +kernel
theorem d_Checker_isDirectionRight_129 : decode b_Checker_isDirectionRight 129 = .ok (.istore 4, 2) := by decide +kernel
theorem d_Checker_isDirectionRight_131 : decode b_Checker_isDirectionRight 131 = .ok (.iload_n 3, 1) := by decide +kernel
theorem d_Checker_isDirectionRight_132 : decode b_Checker_isDirectionRight 132 = .ok (.bipush 30, 2) := by decide +kernel
theorem d_Checker_isDirectionRight_134 : decode b_Checker_isDirectionRight 134 = .ok (.iand, 1) := by decide +kernel
theorem d_Checker_isDirectionRight_135 : decode b_Checker_isDirectionRight 135 = .ok (.ifCond .eq 7, 3) := by decide +kernel
theorem d_Checker_isDirectionRight_138 : decode b_Checker_isDirectionRight 138 = .ok (.iconst 1, 1) := by decide +kernel
theorem d_Checker_isDirectionRight_139 : decode b_Checker_isDirectionRight 139 = .ok (.goto 4, 3) := by decide +kernel
theorem d_Checker_isDirectionRight_142 : decode b_Checker_isDirectionRight 142 = .ok (.iconst 0, 1) := by decide +kernel
theorem d_Checker_isDirectionRight_143 : decode b_Checker_isDirectionRight 143 = .ok (.istore 5, 2) := by decide +kernel
theorem d_Checker_isDirectionRight_145 : decode b_Checker_isDirectionRight 145 = .ok (.iload_n 2, 1) := by decide +kernel
theorem d_Checker_isDirectionRight_146 : decode b_Checker_isDirectionRight 146 = .ok (.iconst 1, 1) := by decide +kernel
theorem d_Checker_isDirectionRight_147 : decode b_Checker_isDirectionRight 147 = .ok (.iand, 1) := by decide +kernel
theorem d_Checker_isDirectionRight_148 : decode b_Checker_isDirectionRight 148 = .ok (.ifCond .ne 17, 3) := by decide +kernel
theorem d_Checker_isDirectionRight_151 : decode b_Checker_isDirectionRight 151 = .ok (.iload 4, 2) := by decide +kernel
theorem d_Checker_isDirectionRight_153 : decode b_Checker_isDirectionRight 153 = .ok (.ifCond .ne 12, 3) := by decide +kernel
theorem d_Checker_isDirectionRight_156 : decode b_Checker_isDirectionRight 156 = .ok (.iload 5, 2) := by decide +kernel
theorem d_Checker_isDirectionRight_158 : decode b_Checker_isDirectionRight 158 = .ok (.ifCond .eq 7, 3) := by decide +kernel
theorem d_Checker_isDirectionRight_161 : decode b_Checker_isDirectionRight 161 = .ok (.iconst 1, 1) := by decide +kernel
theorem d_Checker_isDirectionRight_162 : decode b_Checker_isDirectionRight 162 = .ok (.goto 4, 3) := by decide +kernel
theorem d_Checker_isDirectionRight_165 : decode b_Checker_isDirectionRight 165 = .ok (.iconst 0, 1) := by decide +kernel
theorem d_Checker_isDirectionRight_166 : decode b_Checker_isDirectionRight 166 = .ok (.ireturn, 1) := by decide +kernel
end
section
theorem d_Host_init_0 : decode b_Host_init 0 = .ok (.aload_n 0, 1) := by decide +kernel
theorem d_Host_init_1 : decode b_Host_init 1 = .ok (.invokespecial 3, 3) := by decide +kernel
theorem d_Host_init_4 : decode b_Host_init 4 = .ok (.aload_n 0, 1) := by decide +kernel
theorem d_Host_init_5 : decode b_Host_init 5 = .ok (.new 9, 3) := by decide +kernel
theorem d_Host_init_8 : decode b_Host_init 8 = .ok (.dup, 1) := by decide +kernel
theorem d_Host_init_9 : decode b_Host_init 9 = .ok (.bipush 48, 2) := by decide +kernel
theorem d_Host_init_11 : decode b_Host_init 11 = .ok (.invokespecial 11, 3) := by decide +kernel
theorem d_Host_init_14 : decode b_Host_init 14 = .ok (.putfield 14, 3) := by decide +kernel
theorem d_Host_init_17 : decode b_Host_init 17 = .ok (.aload_n 0, 1) := by decide +kernel
theorem d_Host_init_18 : decode b_Host_init 18 = .ok (.new 9, 3) := by decide +kernel
theorem d_Host_init_21 : decode b_Host_init 21 = .ok (.dup, 1) := by decide +kernel
theorem d_Host_init_22 : decode b_Host_init 22 = .ok (.sipush 512, 3) := by decide +kernel
theorem d_Host_init_25 : decode b_Host_init 25 = .ok (.invokespecial 11, 3) := by decide +kernel
theorem d_Host_init_28 : decode b_Host_init 28 = .ok (.putfield 18, 3) := by decide +kernel
theorem d_Host_init_31 : decode b_Host_init 31 = .ok (.aload_n 0, 1) := by decide +kernel
theorem d_Host_init_32 : decode b_Host_init 32 = .ok (.new 9, 3) := by decide +kernel
theorem d_Host_init_35 : decode b_Host_init 35 = .ok (.dup, 1) := by decide +kernel
theorem d_Host_init_36 : decode b_Host_init 36 = .ok (.bipush 96, 2) := by decide +kernel
theorem d_Host_init_38 : decode b_Host_init 38 = .ok (.invokespecial 11, 3) := by decide +kernel
theorem d_Host_init_41 : decode b_Host_init 41 = .ok (.putfield 21, 3) := by decide +kernel
theorem d_Host_init_44 : decode b_Host_init 44 = .ok (.aload_n 0, 1) := by decide +kernel
theorem d_Host_init_45 : decode b_Host_init 45 = .ok (.new 9, 3) := by decide +kernel
theorem d_Host_init_48 : decode b_Host_init 48 = .ok (.dup, 1) := by decide +kernel
theorem d_Host_init_49 : decode b_Host_init 49 = .ok (.bipush 96, 2) := by decide +kernel
theorem d_Host_init_51 : decode b_Host_init 51 = .ok (.invokespecial 11, 3) := by decide +kernel
theorem d_Host_init_54 : decode b_Host_init 54 = .ok (.putfield 24, 3) := by decide +kernel
theorem d_Host_init_57 : decode b_Host_init 57 = .ok (.aload_n 0, 1) := by decide +kernel
theorem d_Host_init_58 : decode b_Host_init 58 = .ok (.new 9, 3) := by decide +kernel
theorem d_Host_init_61 : decode b_Host_init 61 = .ok (.dup, 1) := by decide +kernel
theorem d_Host_init_62 : decode b_Host_init 62 = .ok (.bipush 96, 2) := by decide +kernel
theorem d_Host_init_64 : decode b_Host_init 64 = .ok (.invokespecial 11, 3) := by decide +kernel
theorem d_Host_init_67 : decode b_Host_init 67 = .ok (.putfield 27, 3) := by decide +kernel
theorem d_Host_init_70 : decode b_Host_init 70 = .ok (.aload_n 0, 1) := by decide +kernel
theorem d_Host_init_71 : decode b_Host_init 71 = .ok (.new 9, 3) := by decide +kernel
theorem d_Host_init_74 : decode b_Host_init 74 = .ok (.dup, 1) := by decide +kernel
theorem d_Host_init_75 : decode b_Host_init 75 = .ok (.bipush 48, 2) := by decide +kernel
theorem d_Host_init_77 : decode b_Host_init 77 = .ok (.invokespecial 11, 3) := by decide +kernel
theorem d_Host_init_80 : decode b_Host_init 80 = .ok (.putfield 30, 3) := by decide +kernel
theorem d_Host_init_83 : decode b_Host_init 83 = .ok (.aload_n 0, 1) := by decide +kernel
theorem d_Host_init_84 : decode b_Host_init 84 = .ok (.new 33, 3) := by decide +kernel
theorem d_Host_init_87 : decode b_Host_init 87 = .ok (.dup, 1) := by decide +kernel
theorem d_Host_init_88 : decode b_Host_init 88 = .ok (.invokespecial 35, 3) := by decide +kernel
theorem d_Host_init_91 : decode b_Host_init 91 = .ok (.putfield 36, 3) := by decide +kernel
theorem d_Host_init_94 : decode b_Host_init 94 = .ok (.aload_n 0, 1) := by decide +kernel
theorem d_Host_init_95 : decode b_Host_init 95 = .ok (.new 40, 3) := by decide +kernel
theorem d_Host_init_98 : decode b_Host_init 98 = .ok (.dup, 1) := by decide +kernel
theorem d_Host_init_99 : decode b_Host_init 99 = .ok (.invokespecial 42, 3) := by decide +kernel
theorem d_Host_init_102 : decode b_Host_init 102 = .ok (.putfield 43, 3) := by decide +kernel
theorem d_Host_init_105 : decode b_Host_init 105 = .ok (.aload_n 0, 1) := by decide +kernel
theorem d_Host_init_106 : decode b_Host_init 106 = .ok (.new 47, 3) := by decide +kernel
theorem d_Host_init_109 : decode b_Host_init 109 = .ok (.dup, 1) := by decide +kernel
theorem d_Host_init_110 : decode b_Host_init 110 = .ok (.invokespecial 49, 3) := by decide +kernel
theorem d_Host_init_113 : decode b_Host_init 113 = .ok (.putfield 50, 3) := by decide +kernel
theorem d_Host_init_116 : decode b_Host_init 116 = .ok (.aload_n 0, 1) := by decide +kernel
theorem d_Host_init_117 : decode b_Host_init 117 = .ok (.new 54, 3) := by decide +kernel
theorem d_Host_init_120 : decode b_Host_init 120 = .ok (.dup, 1) := by decide +kernel
theorem d_Host_init_121 : decode b_Host_init 121 = .ok (.aload_n 0, 1) := by decide +kernel
theorem d_Host_init_122 : decode b_Host_init 122 = .ok (.getfield 43, 3) := by decide +kernel
theorem d_Host_init_125 : decode b_Host_init 125 = .ok (.invokespecial 56, 3) := by decide +kernel
theorem d_Host_init_128 : decode b_Host_init 128 = .ok (.putfield 59, 3) := by decide +kernel
theorem d_Host_init_131 : decode b_Host_init 131 = .ok (.return_, 1) := by decide +kernel
theorem d_Host_put_0 : decode b_Host_put 0 = .ok (.iload_n 1, 1) := by decide +kernel
theorem d_Host_put_1 : decode b_Host_put 1 = .ok (.ldc 63, 2) := by decide +kernel
theorem d_Host_put_3 : decode b_Host_put 3 = .ok (.ldc 64, 2) := by decide +kernel
theorem d_Host_put_5 : decode b_Host_put 5 = .ok (.invokestatic 65, 3) := by decide +kernel
theorem d_Host_put_8 : decode b_Host_put 8 = .ok (.istore_n 2, 1) := by decide +kernel
theorem d_Host_put_9 : decode b_Host_put 9 = .ok (.iload_n 1, 1) := by decide +kernel
theorem d_Host_put_10 : decode b_Host_put 10 = .ok (.iconst 0, 1) := by decide +kernel
theorem d_Host_put_11 : decode b_Host_put 11 = .ok (.ldc 71, 2) := by decide +kernel
theorem d_Host_put_13 : decode b_Host_put 13 = .ok (.invokestatic 65, 3) := by decide +kernel
theorem d_Host_put_16 : decode b_Host_put 16 = .ok (.ifCond .eq 7, 3) := by decide +kernel
theorem d_Host_put_19 : decode b_Host_put 19 = .ok (.iload_n 2, 1) := by decide +kernel
theorem d_Host_put_20 : decode b_Host_put 20 = .ok (.ifCond .eq 5, 3) := by decide +kernel
theorem d_Host_put_23 : decode b_Host_put 23 = .ok (.iconst 0, 1) := by decide +kernel
theorem d_Host_put_24 : decode b_Host_put 24 = .ok (.ireturn, 1) := by decide +kernel
theorem d_Host_put_25 : decode b_Host_put 25 = .ok (.aload_n 0, 1) := by decide +kernel
theorem d_Host_put_26 : decode b_Host_put 26 = .ok (.getfield 14, 3) := by decide +kernel
theorem d_Host_put_29 : decode b_Host_put 29 = .ok (.iload_n 1, 1) := by decide +kernel
theorem d_Host_put_30 : decode b_Host_put 30 = .ok (.invokevirtual 72, 3) := by decide +kernel
theorem d_Host_put_33 : decode b_Host_put 33 = .ok (.ireturn, 1) := by decide +kernel
theorem d_Host_type_0 : decode b_Host_type 0 = .ok (.iload_n 3, 1) := by decide +kernel
theorem d_Host_type_1 : decode b_Host_type 1 = .ok (.iconst 1, 1) := by decide +kernel
theorem d_Host_type_2 : decode b_Host_type 2 = .ok (.if_icmp .lt 23, 3) := by decide +kernel
theorem d_Host_type_5 : decode b_Host_type 5 = .ok (.iload_n 3, 1) := by decide +kernel
theorem d_Host_type_6 : decode b_Host_type 6 = .ok (.bipush 8, 2) := by decide +kernel
theorem d_Host_type_8 : decode b_Host_type 8 = .ok (.if_icmp .gt 17, 3) := by decide +kernel
theorem d_Host_type_11 : decode b_Host_type 11 = .ok (.aload_n 0, 1) := by decide +kernel
theorem d_Host_type_12 : decode b_Host_type 12 = .ok (.getfield 14, 3) := by decide +kernel
theorem d_Host_type_15 : decode b_Host_type 15 = .ok (.invokevirtual 76, 3) := by decide +kernel
theorem d_Host_type_18 : decode b_Host_type 18 = .ok (.iload_n 3, 1) := by decide +kernel
theorem d_Host_type_19 : decode b_Host_type 19 = .ok (.iadd, 1) := by decide +kernel
theorem d_Host_type_20 : decode b_Host_type 20 = .ok (.bipush 48, 2) := by decide +kernel
theorem d_Host_type_22 : decode b_Host_type 22 = .ok (.if_icmp .le 5, 3) := by decide +kernel
theorem d_Host_type_25 : decode b_Host_type 25 = .ok (.iconst 0, 1) := by decide +kernel
theorem d_Host_type_26 : decode b_Host_type 26 = .ok (.ireturn, 1) := by decide +kernel
theorem d_Host_type_27 : decode b_Host_type 27 = .ok (.iload_n 3, 1) := by decide +kernel
theorem d_Host_type_28 : decode b_Host_type 28 = .ok (.iconst 1, 1) := by decide +kernel
theorem d_Host_type_29 : decode b_Host_type 29 = .ok (.isub, 1) := by decide +kernel
theorem d_Host_type_30 : decode b_Host_type 30 = .ok (.istore 4, 2) := by decide +kernel
theorem d_Host_type_32 : decode b_Host_type 32 = .ok (.iload 4, 2) := by decide +kernel
theorem d_Host_type_34 : decode b_Host_type 34 = .ok (.ifCond .lt 29, 3) := by decide +kernel
theorem d_Host_type_37 : decode b_Host_type 37 = .ok (.aload_n 0, 1) := by decide +kernel
theorem d_Host_type_38 : decode b_Host_type 38 = .ok (.getfield 14, 3) := by decide +kernel
theorem d_Host_type_41 : decode b_Host_type 41 = .ok (.lload_n 1, 1) := by decide +kernel
theorem d_Host_type_42 : decode b_Host_type 42 = .ok (.bipush 8, 2) := by decide +kernel
theorem d_Host_type_44 : decode b_Host_type 44 = .ok (.iload 4, 2) := by decide +kernel
theorem d_Host_type_46 : decode b_Host_type 46 = .ok (.imul, 1) := by decide +kernel
theorem d_Host_type_47 : decode b_Host_type 47 = .ok (.lushr, 1) := by decide +kernel
theorem d_Host_type_48 : decode b_Host_type 48 = .ok (.l2i, 1) := by decide +kernel
theorem d_Host_type_49 : decode b_Host_type 49 = .ok (.sipush 255, 3) := by decide +kernel
theorem d_Host_type_52 : decode b_Host_type 52 = .ok (.iand, 1) := by decide +kernel
theorem d_Host_type_53 : decode b_Host_type 53 = .ok (.invokevirtual 72, 3) := by decide +kernel
theorem d_Host_type_56 : decode b_Host_type 56 = .ok (.pop, 1) := by decide +kernel
theorem d_Host_type_57 : decode b_Host_type 57 = .ok (.iinc 4 ( -1), 3) := by decide +kernel
theorem d_Host_type_60 : decode b_Host_type 60 = .ok (.goto (-28), 3) := by decide +kernel
theorem d_Host_type_63 : decode b_Host_type 63 = .ok (.iconst 1, 1) := by decide +kernel
theorem d_Host_type_64 : decode b_Host_type 64 = .ok (.ireturn, 1) := by decide +kernel
theorem d_Host_clear_0 : decode b_Host_clear 0 = .ok (.aload_n 0, 1) := by decide +kernel
theorem d_Host_clear_1 : decode b_Host_clear 1 = .ok (.getfield 14, 3) := by decide +kernel
theorem d_Host_clear_4 : decode b_Host_clear 4 = .ok (.invokevirtual 76, 3) := by decide +kernel
theorem d_Host_clear_7 : decode b_Host_clear 7 = .ok (.istore_n 1, 1) := by decide +kernel
theorem d_Host_clear_8 : decode b_Host_clear 8 = .ok (.aload_n 0, 1) := by decide +kernel
theorem d_Host_clear_9 : decode b_Host_clear 9 = .ok (.getfield 14, 3) := by decide +kernel
theorem d_Host_clear_12 : decode b_Host_clear 12 = .ok (.invokevirtual 80, 3) := by decide +kernel
theorem d_Host_clear_15 : decode b_Host_clear 15 = .ok (.iload_n 1, 1) := by decide +kernel
theorem d_Host_clear_16 : decode b_Host_clear 16 = .ok (.ireturn, 1) := by decide +kernel
theorem d_Host_process_0 : decode b_Host_process 0 = .ok (.iload_n 1, 1) := by decide +kernel
theorem d_Host_process_1 : decode b_Host_process 1 = .ok (.ifCond .lt 9, 3) := by decide +kernel
theorem d_Host_process_4 : decode b_Host_process 4 = .ok (.iload_n 1, 1) := by decide +kernel
theorem d_Host_process_5 : decode b_Host_process 5 = .ok (.bipush 63, 2) := by decide +kernel
theorem d_Host_process_7 : decode b_Host_process 7 = .ok (.if_icmp .le 5, 3) := by decide +kernel
theorem d_Host_process_10 : decode b_Host_process 10 = .ok (.iconst (-1), 1) := by decide +kernel
theorem d_Host_process_11 : decode b_Host_process 11 = .ok (.ireturn, 1) := by decide +kernel
theorem d_Host_process_12 : decode b_Host_process 12 = .ok (.aload_n 0, 1) := by decide +kernel
theorem d_Host_process_13 : decode b_Host_process 13 = .ok (.iload_n 1, 1) := by decide +kernel
theorem d_Host_process_14 : decode b_Host_process 14 = .ok (.invokevirtual 83, 3) := by decide +kernel
theorem d_Host_process_17 : decode b_Host_process 17 = .ok (.istore_n 3, 1) := by decide +kernel
theorem d_Host_process_18 : decode b_Host_process 18 = .ok (.aload_n 0, 1) := by decide +kernel
theorem d_Host_process_19 : decode b_Host_process 19 = .ok (.getfield 43, 3) := by decide +kernel
theorem d_Host_process_22 : decode b_Host_process 22 = .ok (.aload_n 0, 1) := by decide +kernel
theorem d_Host_process_23 : decode b_Host_process 23 = .ok (.getfield 21, 3) := by decide +kernel
theorem d_Host_process_26 : decode b_Host_process 26 = .ok (.aload_n 0, 1) := by decide +kernel
theorem d_Host_process_27 : decode b_Host_process 27 = .ok (.getfield 24, 3) := by decide +kernel
theorem d_Host_process_30 : decode b_Host_process 30 = .ok (.invokevirtual 87, 3) := by decide +kernel
theorem d_Host_process_33 : decode b_Host_process 33 = .ok (.aload_n 0, 1) := by decide +kernel
theorem d_Host_process_34 : decode b_Host_process 34 = .ok (.invokevirtual 91, 3) := by decide +kernel
theorem d_Host_process_37 : decode b_Host_process 37 = .ok (.aload_n 0, 1) := by decide +kernel
theorem d_Host_process_38 : decode b_Host_process 38 = .ok (.iload_n 1, 1) := by decide +kernel
theorem d_Host_process_39 : decode b_Host_process 39 = .ok (.invokevirtual 94, 3) := by decide +kernel
theorem d_Host_process_42 : decode b_Host_process 42 = .ok (.iload_n 3, 1) := by decide +kernel
theorem d_Host_process_43 : decode b_Host_process 43 = .ok (.aload_n 0, 1) := by decide +kernel
theorem d_Host_process_44 : decode b_Host_process 44 = .ok (.iload_n 2, 1) := by decide +kernel
theorem d_Host_process_45 : decode b_Host_process 45 = .ok (.iload_n 2, 1) := by decide +kernel
theorem d_Host_process_46 : decode b_Host_process 46 = .ok (.ifCond .eq 14, 3) := by decide +kernel
theorem d_Host_process_49 : decode b_Host_process 49 = .ok (.iload_n 1, 1) := by decide +kernel
theorem d_Host_process_50 : decode b_Host_process 50 = .ok (.bipush 32, 2) := by decide +kernel
theorem d_Host_process_52 : decode b_Host_process 52 = .ok (.iand, 1) := by decide +kernel
theorem d_Host_process_53 : decode b_Host_process 53 = .ok (.ifCond .eq 7, 3) := by decide +kernel
theorem d_Host_process_56 : decode b_Host_process 56 = .ok (.iconst 1, 1) := by decide +kernel
theorem d_Host_process_57 : decode b_Host_process 57 = .ok (.goto 4, 3) := by decide +kernel
theorem d_Host_process_60 : decode b_Host_process 60 = .ok (.iconst 0, 1) := by decide +kernel
theorem d_Host_process_61 : decode b_Host_process 61 = .ok (.invokevirtual 97, 3) := by decide +kernel
theorem d_Host_process_64 : decode b_Host_process 64 = .ok (.ior, 1) := by decide +kernel
theorem d_Host_process_65 : decode b_Host_process 65 = .ok (.istore_n 3, 1) := by decide +kernel
theorem d_Host_process_66 : decode b_Host_process 66 = .ok (.iload_n 3, 1) := by decide +kernel
theorem d_Host_process_67 : decode b_Host_process 67 = .ok (.aload_n 0, 1) := by decide +kernel
theorem d_Host_process_68 : decode b_Host_process 68 = .ok (.getfield 36, 3) := by decide +kernel
theorem d_Host_process_71 : decode b_Host_process 71 = .ok (.invokevirtual 101, 3) := by decide +kernel
theorem d_Host_process_74 : decode b_Host_process 74 = .ok (.ior, 1) := by decide +kernel
theorem d_Host_process_75 : decode b_Host_process 75 = .ok (.ireturn, 1) := by decide +kernel
theorem d_Host_length_0 : decode b_Host_length 0 = .ok (.aload_n 0, 1) := by decide +kernel
theorem d_Host_length_1 : decode b_Host_length 1 = .ok (.getfield 18, 3) := by decide +kernel
theorem d_Host_length_4 : decode b_Host_length 4 = .ok (.invokevirtual 76, 3) := by decide +kernel
theorem d_Host_length_7 : decode b_Host_length 7 = .ok (.ireturn, 1) := by decide +kernel
theorem d_Host_at_0 : decode b_Host_at 0 = .ok (.aload_n 0, 1) := by decide +kernel
theorem d_Host_at_1 : decode b_Host_at 1 = .ok (.getfield 18, 3) := by decide +kernel
theorem d_Host_at_4 : decode b_Host_at 4 = .ok (.iload_n 1, 1) := by decide +kernel
theorem d_Host_at_5 : decode b_Host_at 5 = .ok (.invokevirtual 104, 3) := by decide +kernel
theorem d_Host_at_8 : decode b_Host_at 8 = .ok (.ireturn, 1) := by decide +kernel
theorem d_Host_labels_0 : decode b_Host_labels 0 = .ok (.aload_n 0, 1) := by decide +kernel
theorem d_Host_labels_1 : decode b_Host_labels 1 = .ok (.getfield 36, 3) := by decide +kernel
theorem d_Host_labels_4 : decode b_Host_labels 4 = .ok (.invokevirtual 107, 3) := by decide +kernel
theorem d_Host_labels_7 : decode b_Host_labels 7 = .ok (.ireturn, 1) := by decide +kernel
theorem d_Host_broken_0 : decode b_Host_broken 0 = .ok (.aload_n 0, 1) := by decide +kernel
theorem d_Host_broken_1 : decode b_Host_broken 1 = .ok (.getfield 36, 3) := by decide +kernel
theorem d_Host_broken_4 : decode b_Host_broken 4 = .ok (.iload_n 1, 1) := by decide +kernel
theorem d_Host_broken_5 : decode b_Host_broken 5 = .ok (.invokevirtual 110, 3) := by decide +kernel
theorem d_Host_broken_8 : decode b_Host_broken 8 = .ok (.ireturn, 1) := by decide +kernel
theorem d_Host_pack_0 : decode b_Host_pack 0 = .ok (.aload_n 0, 1) := by decide +kernel
theorem d_Host_pack_1 : decode b_Host_pack 1 = .ok (.getfield 18, 3) := by decide +kernel
theorem d_Host_pack_4 : decode b_Host_pack 4 = .ok (.invokevirtual 80, 3) := by decide +kernel
theorem d_Host_pack_7 : decode b_Host_pack 7 = .ok (.aload_n 0, 1) := by decide +kernel
theorem d_Host_pack_8 : decode b_Host_pack 8 = .ok (.getfield 50, 3) := by decide +kernel
theorem d_Host_pack_11 : decode b_Host_pack 11 = .ok (.aload_n 0, 1) := by decide +kernel
theorem d_Host_pack_12 : decode b_Host_pack 12 = .ok (.getfield 14, 3) := by decide +kernel
theorem d_Host_pack_15 : decode b_Host_pack 15 = .ok (.aload_n 0, 1) := by decide +kernel
theorem d_Host_pack_16 : decode b_Host_pack 16 = .ok (.getfield 18, 3) := by decide +kernel
theorem d_Host_pack_19 : decode b_Host_pack 19 = .ok (.invokevirtual 113, 3) := by decide +kernel
theorem d_Host_pack_22 : decode b_Host_pack 22 = .ok (.aload_n 0, 1) := by decide +kernel
theorem d_Host_pack_23 : decode b_Host_pack 23 = .ok (.getfield 18, 3) := by decide +kernel
theorem d_Host_pack_26 : decode b_Host_pack 26 = .ok (.invokevirtual 76, 3) := by decide +kernel
theorem d_Host_pack_29 : decode b_Host_pack 29 = .ok (.ireturn, 1) := by decide +kernel
theorem d_Host_unpack_0 : decode b_Host_unpack 0 = .ok (.aload_n 0, 1) := by decide +kernel
theorem d_Host_unpack_1 : decode b_Host_unpack 1 = .ok (.getfield 50, 3) := by decide +kernel
theorem d_Host_unpack_4 : decode b_Host_unpack 4 = .ok (.aload_n 0, 1) := by decide +kernel
theorem d_Host_unpack_5 : decode b_Host_unpack 5 = .ok (.getfield 14, 3) := by decide +kernel
theorem d_Host_unpack_8 : decode b_Host_unpack 8 = .ok (.iconst 0, 1) := by decide +kernel
theorem d_Host_unpack_9 : decode b_Host_unpack 9 = .ok (.aload_n 0, 1) := by decide +kernel
theorem d_Host_unpack_10 : decode b_Host_unpack 10 = .ok (.getfield 30, 3) := by decide +kernel
theorem d_Host_unpack_13 : decode b_Host_unpack 13 = .ok (.invokevirtual 116, 3) := by decide +kernel
theorem d_Host_unpack_16 : decode b_Host_unpack 16 = .ok (.ifCond .ne 5, 3) := by decide +kernel
theorem d_Host_unpack_19 : decode b_Host_unpack 19 = .ok (.iconst 0, 1) := by decide +kernel
theorem d_Host_unpack_20 : decode b_Host_unpack 20 = .ok (.ireturn, 1) := by decide +kernel
theorem d_Host_unpack_21 : decode b_Host_unpack 21 = .ok (.aload_n 0, 1) := by decide +kernel
theorem d_Host_unpack_22 : decode b_Host_unpack 22 = .ok (.getfield 18, 3) := by decide +kernel
theorem d_Host_unpack_25 : decode b_Host_unpack 25 = .ok (.invokevirtual 80, 3) := by decide +kernel
theorem d_Host_unpack_28 : decode b_Host_unpack 28 = .ok (.aload_n 0, 1) := by decide +kernel
theorem d_Host_unpack_29 : decode b_Host_unpack 29 = .ok (.getfield 18, 3) := by decide +kernel
theorem d_Host_unpack_32 : decode b_Host_unpack 32 = .ok (.aload_n 0, 1) := by decide +kernel
theorem d_Host_unpack_33 : decode b_Host_unpack 33 = .ok (.getfield 30, 3) := by decide +kernel
theorem d_Host_unpack_36 : decode b_Host_unpack 36 = .ok (.iconst 0, 1) := by decide +kernel
theorem d_Host_unpack_37 : decode b_Host_unpack 37 = .ok (.aload_n 0, 1) := by decide +kernel
theorem d_Host_unpack_38 : decode b_Host_unpack 38 = .ok (.getfield 30, 3) := by decide +kernel
theorem d_Host_unpack_41 : decode b_Host_unpack 41 = .ok (.invokevirtual 76, 3) := by decide +kernel
theorem d_Host_unpack_44 : decode b_Host_unpack 44 = .ok (.invokevirtual 120, 3) := by decide +kernel
theorem d_Host_unpack_47 : decode b_Host_unpack 47 = .ok (.iconst 1, 1) := by decide +kernel
theorem d_Host_unpack_48 : decode b_Host_unpack 48 = .ok (.ireturn, 1) := by decide +kernel
theorem d_Host_compose_0 : decode b_Host_compose 0 = .ok (.aload_n 0, 1) := by decide +kernel
theorem d_Host_compose_1 : decode b_Host_compose 1 = .ok (.getfield 43, 3) := by decide +kernel
theorem d_Host_compose_4 : decode b_Host_compose 4 = .ok (.aload_n 0, 1) := by decide +kernel
theorem d_Host_compose_5 : decode b_Host_compose 5 = .ok (.getfield 14, 3) := by decide +kernel
theorem d_Host_compose_8 : decode b_Host_compose 8 = .ok (.aload_n 0, 1) := by decide +kernel
theorem d_Host_compose_9 : decode b_Host_compose 9 = .ok (.getfield 18, 3) := by decide +kernel
theorem d_Host_compose_12 : decode b_Host_compose 12 = .ok (.invokevirtual 87, 3) := by decide +kernel
theorem d_Host_compose_15 : decode b_Host_compose 15 = .ok (.aload_n 0, 1) := by decide +kernel
theorem d_Host_compose_16 : decode b_Host_compose 16 = .ok (.getfield 18, 3) := by decide +kernel
theorem d_Host_compose_19 : decode b_Host_compose 19 = .ok (.invokevirtual 76, 3) := by decide +kernel
theorem d_Host_compose_22 : decode b_Host_compose 22 = .ok (.ireturn, 1) := by decide +kernel
theorem d_Host_bit_0 : decode b_Host_bit 0 = .ok (.iconst 1, 1) := by decide +kernel
theorem d_Host_bit_1 : decode b_Host_bit 1 = .ok (.iload_n 0, 1) := by decide +kernel
theorem d_Host_bit_2 : decode b_Host_bit 2 = .ok (.iconst 1, 1) := by decide +kernel
theorem d_Host_bit_3 : decode b_Host_bit 3 = .ok (.isub, 1) := by decide +kernel
theorem d_Host_bit_4 : decode b_Host_bit 4 = .ok (.ishl, 1) := by decide +kernel
theorem d_Host_bit_5 : decode b_Host_bit 5 = .ok (.ireturn, 1) := by decide +kernel
theorem d_Host_mapText_0 : decode b_Host_mapText 0 = .ok (.iload_n 1, 1) := by decide +kernel
theorem d_Host_mapText_1 : decode b_Host_mapText 1 = .ok (.iconst 1, 1) := by decide +kernel
theorem d_Host_mapText_2 : decode b_Host_mapText 2 = .ok (.iand, 1) := by decide +kernel
theorem d_Host_mapText_3 : decode b_Host_mapText 3 = .ok (.ifCond .eq 7, 3) := by decide +kernel
theorem d_Host_mapText_6 : decode b_Host_mapText 6 = .ok (.iconst 1, 1) := by decide +kernel
theorem d_Host_mapText_7 : decode b_Host_mapText 7 = .ok (.goto 4, 3) := by decide +kernel
theorem d_Host_mapText_10 : decode b_Host_mapText 10 = .ok (.iconst 0, 1) := by decide +kernel
theorem d_Host_mapText_11 : decode b_Host_mapText 11 = .ok (.istore_n 2, 1) := by decide +kernel
theorem d_Host_mapText_12 : decode b_Host_mapText 12 = .ok (.iload_n 1, 1) := by decide +kernel
theorem d_Host_mapText_13 : decode b_Host_mapText 13 = .ok (.iconst 2, 1) := by decide +kernel
theorem d_Host_mapText_14 : decode b_Host_mapText 14 = .ok (.iand, 1) := by decide +kernel
theorem d_Host_mapText_15 : decode b_Host_mapText 15 = .ok (.ifCond .eq 7, 3) := by decide +kernel
theorem d_Host_mapText_18 : decode b_Host_mapText 18 = .ok (.iconst 1, 1) := by decide +kernel
theorem d_Host_mapText_19 : decode b_Host_mapText 19 = .ok (.goto 4, 3) := by decide +kernel
theorem d_Host_mapText_22 : decode b_Host_mapText 22 = .ok (.iconst 0, 1) := by decide +kernel
theorem d_Host_mapText_23 : decode b_Host_mapText 23 = .ok (.istore_n 3, 1) := by decide +kernel
theorem d_Host_mapText_24 : decode b_Host_mapText 24 = .ok (.iconst 0, 1) := by decide +kernel
theorem d_Host_mapText_25 : decode b_Host_mapText 25 = .ok (.istore 4, 2) := by decide +kernel
theorem d_Host_mapText_27 : decode b_Host_mapText 27 = .ok (.aload_n 0, 1) := by decide +kernel
theorem d_Host_mapText_28 : decode b_Host_mapText 28 = .ok (.getfield 21, 3) := by decide +kernel
theorem d_Host_mapText_31 : decode b_Host_mapText 31 = .ok (.invokevirtual 80, 3) := by decide +kernel
theorem d_Host_mapText_34 : decode b_Host_mapText 34 = .ok (.iconst 0, 1) := by decide +kernel
theorem d_Host_mapText_35 : decode b_Host_mapText 35 = .ok (.istore 5, 2) := by decide +kernel
theorem d_Host_mapText_37 : decode b_Host_mapText 37 = .ok (.iload 5, 2) := by decide +kernel
theorem d_Host_mapText_39 : decode b_Host_mapText 39 = .ok (.aload_n 0, 1) := by decide +kernel
theorem d_Host_mapText_40 : decode b_Host_mapText 40 = .ok (.getfield 14, 3) := by decide +kernel
theorem d_Host_mapText_43 : decode b_Host_mapText 43 = .ok (.invokevirtual 76, 3) := by decide +kernel
theorem d_Host_mapText_46 : decode b_Host_mapText 46 = .ok (.if_icmp .ge 33, 3) := by decide +kernel
theorem d_Host_mapText_49 : decode b_Host_mapText 49 = .ok (.aload_n 0, 1) := by decide +kernel
theorem d_Host_mapText_50 : decode b_Host_mapText 50 = .ok (.aload_n 0, 1) := by decide +kernel
theorem d_Host_mapText_51 : decode b_Host_mapText 51 = .ok (.getfield 14, 3) := by decide +kernel
theorem d_Host_mapText_54 : decode b_Host_mapText 54 = .ok (.iload 5, 2) := by decide +kernel
theorem d_Host_mapText_56 : decode b_Host_mapText 56 = .ok (.invokevirtual 104, 3) := by decide +kernel
theorem d_Host_mapText_59 : decode b_Host_mapText 59 = .ok (.iload_n 2, 1) := by decide +kernel
theorem d_Host_mapText_60 : decode b_Host_mapText 60 = .ok (.iload_n 3, 1) := by decide +kernel
theorem d_Host_mapText_61 : decode b_Host_mapText 61 = .ok (.invokevirtual 124, 3) := by decide +kernel
theorem d_Host_mapText_64 : decode b_Host_mapText 64 = .ok (.ifCond .ne 9, 3) := by decide +kernel
theorem d_Host_mapText_67 : decode b_Host_mapText 67 = .ok (.iconst 1, 1) := by decide +kernel
theorem d_Host_mapText_68 : decode b_Host_mapText 68 = .ok (.invokestatic 128, 3) := by decide +kernel
theorem d_Host_mapText_71 : decode b_Host_mapText 71 = .ok (.istore 4, 2) := by decide +kernel
theorem d_Host_mapText_73 : decode b_Host_mapText 73 = .ok (.iinc 5 1, 3) := by decide +kernel
theorem d_Host_mapText_76 : decode b_Host_mapText 76 = .ok (.goto (-39), 3) := by decide +kernel
theorem d_Host_mapText_79 : decode b_Host_mapText 79 = .ok (.iload 4, 2) := by decide +kernel
theorem d_Host_mapText_81 : decode b_Host_mapText 81 = .ok (.ireturn, 1) := by decide +kernel
theorem d_Host_mapCode_0 : decode b_Host_mapCode 0 = .ok (.iload_n 1, 1) := by decide +kernel
theorem d_Host_mapCode_1 : decode b_Host_mapCode 1 = .ok (.sipush 173, 3) := by decide +kernel
theorem d_Host_mapCode_4 : decode b_Host_mapCode 4 = .ok (.if_icmp .ne 5, 3) := by decide +kernel
theorem d_Host_mapCode_7 : decode b_Host_mapCode 7 = .ok (.iconst 1, 1) := by decide +kernel
theorem d_Host_mapCode_8 : decode b_Host_mapCode 8 = .ok (.ireturn, 1) := by decide +kernel
theorem d_Host_mapCode_9 : decode b_Host_mapCode 9 = .ok (.iload_n 3, 1) := by decide +kernel
theorem d_Host_mapCode_10 : decode b_Host_mapCode 10 = .ok (.ifCond .eq 17, 3) := by decide +kernel
theorem d_Host_mapCode_13 : decode b_Host_mapCode 13 = .ok (.iload_n 1, 1) := by decide +kernel
theorem d_Host_mapCode_14 : decode b_Host_mapCode 14 = .ok (.invokestatic 131, 3) := by decide +kernel
theorem d_Host_mapCode_17 : decode b_Host_mapCode 17 = .ok (.ifCond .eq 10, 3) := by decide +kernel
theorem d_Host_mapCode_20 : decode b_Host_mapCode 20 = .ok (.aload_n 0, 1) := by decide +kernel
theorem d_Host_mapCode_21 : decode b_Host_mapCode 21 = .ok (.iload_n 1, 1) := by decide +kernel
theorem d_Host_mapCode_22 : decode b_Host_mapCode 22 = .ok (.invokevirtual 134, 3) := by decide +kernel
theorem d_Host_mapCode_25 : decode b_Host_mapCode 25 = .ok (.iconst 1, 1) := by decide +kernel
theorem d_Host_mapCode_26 : decode b_Host_mapCode 26 = .ok (.ireturn, 1) := by decide +kernel
theorem d_Host_mapCode_27 : decode b_Host_mapCode 27 = .ok (.iload_n 1, 1) := by decide +kernel
theorem d_Host_mapCode_28 : decode b_Host_mapCode 28 = .ok (.invokestatic 137, 3) := by decide +kernel
theorem d_Host_mapCode_31 : decode b_Host_mapCode 31 = .ok (.istore 4, 2) := by decide +kernel
theorem d_Host_mapCode_33 : decode b_Host_mapCode 33 = .ok (.aload_n 0, 1) := by decide +kernel
theorem d_Host_mapCode_34 : decode b_Host_mapCode 34 = .ok (.getfield 21, 3) := by decide +kernel
theorem d_Host_mapCode_37 : decode b_Host_mapCode 37 = .ok (.iload 4, 2) := by decide +kernel
theorem d_Host_mapCode_39 : decode b_Host_mapCode 39 = .ok (.invokevirtual 72, 3) := by decide +kernel
theorem d_Host_mapCode_42 : decode b_Host_mapCode 42 = .ok (.pop, 1) := by decide +kernel
theorem d_Host_mapCode_43 : decode b_Host_mapCode 43 = .ok (.iload 4, 2) := by decide +kernel
theorem d_Host_mapCode_45 : decode b_Host_mapCode 45 = .ok (.iload_n 2, 1) := by decide +kernel
theorem d_Host_mapCode_46 : decode b_Host_mapCode 46 = .ok (.iconst 0, 1) := by decide +kernel
theorem d_Host_mapCode_47 : decode b_Host_mapCode 47 = .ok (.invokestatic 140, 3) := by decide +kernel
theorem d_Host_mapCode_50 : decode b_Host_mapCode 50 = .ok (.ireturn, 1) := by decide +kernel
theorem d_Host_mapOdd_0 : decode b_Host_mapOdd 0 = .ok (.iload_n 1, 1) := by decide +kernel
theorem d_Host_mapOdd_1 : decode b_Host_mapOdd 1 = .ok (.sipush 223, 3) := by decide +kernel
theorem d_Host_mapOdd_4 : decode b_Host_mapOdd 4 = .ok (.if_icmp .ne 26, 3) := by decide +kernel
theorem d_Host_mapOdd_7 : decode b_Host_mapOdd 7 = .ok (.aload_n 0, 1) := by decide +kernel
theorem d_Host_mapOdd_8 : decode b_Host_mapOdd 8 = .ok (.getfield 21, 3) := by decide +kernel
theorem d_Host_mapOdd_11 : decode b_Host_mapOdd 11 = .ok (.bipush 115, 2) := by decide +kernel
theorem d_Host_mapOdd_13 : decode b_Host_mapOdd 13 = .ok (.invokevirtual 72, 3) := by decide +kernel
theorem d_Host_mapOdd_16 : decode b_Host_mapOdd 16 = .ok (.pop, 1) := by decide +kernel
theorem d_Host_mapOdd_17 : decode b_Host_mapOdd 17 = .ok (.aload_n 0, 1) := by decide +kernel
theorem d_Host_mapOdd_18 : decode b_Host_mapOdd 18 = .ok (.getfield 21, 3) := by decide +kernel
theorem d_Host_mapOdd_21 : decode b_Host_mapOdd 21 = .ok (.bipush 115, 2) := by decide +kernel
theorem d_Host_mapOdd_23 : decode b_Host_mapOdd 23 = .ok (.invokevirtual 72, 3) := by decide +kernel
theorem d_Host_mapOdd_26 : decode b_Host_mapOdd 26 = .ok (.pop, 1) := by decide +kernel
theorem d_Host_mapOdd_27 : decode b_Host_mapOdd 27 = .ok (.goto 21, 3) := by decide +kernel
theorem d_Host_mapOdd_30 : decode b_Host_mapOdd 30 = .ok (.iload_n 1, 1) := by decide +kernel
theorem d_Host_mapOdd_31 : decode b_Host_mapOdd 31 = .ok (.sipush 962, 3) := by decide +kernel
theorem d_Host_mapOdd_34 : decode b_Host_mapOdd 34 = .ok (.if_icmp .ne 14, 3) := by decide +kernel
theorem d_Host_mapOdd_37 : decode b_Host_mapOdd 37 = .ok (.aload_n 0, 1) := by decide +kernel
theorem d_Host_mapOdd_38 : decode b_Host_mapOdd 38 = .ok (.getfield 21, 3) := by decide +kernel
theorem d_Host_mapOdd_41 : decode b_Host_mapOdd 41 = .ok (.sipush 963, 3) := by decide +kernel
theorem d_Host_mapOdd_44 : decode b_Host_mapOdd 44 = .ok (.invokevirtual 72, 3) := by decide +kernel
theorem d_Host_mapOdd_47 : decode b_Host_mapOdd 47 = .ok (.pop, 1) := by decide +kernel
theorem d_Host_mapOdd_48 : decode b_Host_mapOdd 48 = .ok (.return_, 1) := by decide +kernel
theorem d_Host_cutIntoLabels_0 : decode b_Host_cutIntoLabels 0 = .ok (.aload_n 0, 1) := by decide +kernel
theorem d_Host_cutIntoLabels_1 : decode b_Host_cutIntoLabels 1 = .ok (.getfield 36, 3) := by decide +kernel
theorem d_Host_cutIntoLabels_4 : decode b_Host_cutIntoLabels 4 = .ok (.invokevirtual 143, 3) := by decide +kernel
theorem d_Host_cutIntoLabels_7 : decode b_Host_cutIntoLabels 7 = .ok (.iconst 0, 1) := by decide +kernel
theorem d_Host_cutIntoLabels_8 : decode b_Host_cutIntoLabels 8 = .ok (.istore_n 1, 1) := by decide +kernel
theorem d_Host_cutIntoLabels_9 : decode b_Host_cutIntoLabels 9 = .ok (.iconst 0, 1) := by decide +kernel
theorem d_Host_cutIntoLabels_10 : decode b_Host_cutIntoLabels 10 = .ok (.istore_n 2, 1) := by decide +kernel
theorem d_Host_cutIntoLabels_11 : decode b_Host_cutIntoLabels 11 = .ok (.iload_n 2, 1) := by decide +kernel
theorem d_Host_cutIntoLabels_12 : decode b_Host_cutIntoLabels 12 = .ok (.aload_n 0, 1) := by decide +kernel
theorem d_Host_cutIntoLabels_13 : decode b_Host_cutIntoLabels 13 = .ok (.getfield 24, 3) := by decide +kernel
theorem d_Host_cutIntoLabels_16 : decode b_Host_cutIntoLabels 16 = .ok (.invokevirtual 76, 3) := by decide +kernel
theorem d_Host_cutIntoLabels_19 : decode b_Host_cutIntoLabels 19 = .ok (.if_icmp .gt 61, 3) := by decide +kernel
theorem d_Host_cutIntoLabels_22 : decode b_Host_cutIntoLabels 22 = .ok (.iload_n 2, 1) := by decide +kernel
theorem d_Host_cutIntoLabels_23 : decode b_Host_cutIntoLabels 23 = .ok (.aload_n 0, 1) := by decide +kernel
theorem d_Host_cutIntoLabels_24 : decode b_Host_cutIntoLabels 24 = .ok (.getfield 24, 3) := by decide +kernel
theorem d_Host_cutIntoLabels_27 : decode b_Host_cutIntoLabels 27 = .ok (.invokevirtual 76, 3) := by decide +kernel
theorem d_Host_cutIntoLabels_30 : decode b_Host_cutIntoLabels 30 = .ok (.if_icmp .eq 16, 3) := by decide +kernel
theorem d_Host_cutIntoLabels_33 : decode b_Host_cutIntoLabels 33 = .ok (.aload_n 0, 1) := by decide +kernel
theorem d_Host_cutIntoLabels_34 : decode b_Host_cutIntoLabels 34 = .ok (.getfield 24, 3) := by decide +kernel
theorem d_Host_cutIntoLabels_37 : decode b_Host_cutIntoLabels 37 = .ok (.iload_n 2, 1) := by decide +kernel
theorem d_Host_cutIntoLabels_38 : decode b_Host_cutIntoLabels 38 = .ok (.invokevirtual 104, 3) := by decide +kernel
theorem d_Host_cutIntoLabels_41 : decode b_Host_cutIntoLabels 41 = .ok (.bipush 46, 2) := by decide +kernel
theorem d_Host_cutIntoLabels_43 : decode b_Host_cutIntoLabels 43 = .ok (.if_icmp .ne 31, 3) := by decide +kernel
theorem d_Host_cutIntoLabels_46 : decode b_Host_cutIntoLabels 46 = .ok (.aload_n 0, 1) := by decide +kernel
theorem d_Host_cutIntoLabels_47 : decode b_Host_cutIntoLabels 47 = .ok (.getfield 27, 3) := by decide +kernel
theorem d_Host_cutIntoLabels_50 : decode b_Host_cutIntoLabels 50 = .ok (.invokevirtual 80, 3) := by decide +kernel
theorem d_Host_cutIntoLabels_53 : decode b_Host_cutIntoLabels 53 = .ok (.aload_n 0, 1) := by decide +kernel
theorem d_Host_cutIntoLabels_54 : decode b_Host_cutIntoLabels 54 = .ok (.getfield 27, 3) := by decide +kernel
theorem d_Host_cutIntoLabels_57 : decode b_Host_cutIntoLabels 57 = .ok (.aload_n 0, 1) := by decide +kernel
theorem d_Host_cutIntoLabels_58 : decode b_Host_cutIntoLabels 58 = .ok (.getfield 24, 3) := by decide +kernel
theorem d_Host_cutIntoLabels_61 : decode b_Host_cutIntoLabels 61 = .ok (.iload_n 1, 1) := by decide +kernel
theorem d_Host_cutIntoLabels_62 : decode b_Host_cutIntoLabels 62 = .ok (.iload_n 2, 1) := by decide +kernel
theorem d_Host_cutIntoLabels_63 : decode b_Host_cutIntoLabels 63 = .ok (.invokevirtual 120, 3) := by decide +kernel
theorem d_Host_cutIntoLabels_66 : decode b_Host_cutIntoLabels 66 = .ok (.aload_n 0, 1) := by decide +kernel
theorem d_Host_cutIntoLabels_67 : decode b_Host_cutIntoLabels 67 = .ok (.invokevirtual 144, 3) := by decide +kernel
theorem d_Host_cutIntoLabels_70 : decode b_Host_cutIntoLabels 70 = .ok (.iload_n 2, 1) := by decide +kernel
theorem d_Host_cutIntoLabels_71 : decode b_Host_cutIntoLabels 71 = .ok (.iconst 1, 1) := by decide +kernel
theorem d_Host_cutIntoLabels_72 : decode b_Host_cutIntoLabels 72 = .ok (.iadd, 1) := by decide +kernel
theorem d_Host_cutIntoLabels_73 : decode b_Host_cutIntoLabels 73 = .ok (.istore_n 1, 1) := by decide +kernel
theorem d_Host_cutIntoLabels_74 : decode b_Host_cutIntoLabels 74 = .ok (.iinc 2 1, 3) := by decide +kernel
theorem d_Host_cutIntoLabels_77 : decode b_Host_cutIntoLabels 77 = .ok (.goto (-66), 3) := by decide +kernel
theorem d_Host_cutIntoLabels_80 : decode b_Host_cutIntoLabels 80 = .ok (.return_, 1) := by decide +kernel
theorem d_Host_keepLabel_0 : decode b_Host_keepLabel 0 = .ok (.aload_n 0, 1) := by decide +kernel
theorem d_Host_keepLabel_1 : decode b_Host_keepLabel 1 = .ok (.getfield 27, 3) := by decide +kernel
theorem d_Host_keepLabel_4 : decode b_Host_keepLabel 4 = .ok (.invokestatic 147, 3) := by decide +kernel
theorem d_Host_keepLabel_7 : decode b_Host_keepLabel 7 = .ok (.istore_n 1, 1) := by decide +kernel
theorem d_Host_keepLabel_8 : decode b_Host_keepLabel 8 = .ok (.iload_n 1, 1) := by decide +kernel
theorem d_Host_keepLabel_9 : decode b_Host_keepLabel 9 = .ok (.ifCond .ne 19, 3) := by decide +kernel
theorem d_Host_keepLabel_12 : decode b_Host_keepLabel 12 = .ok (.aload_n 0, 1) := by decide +kernel
theorem d_Host_keepLabel_13 : decode b_Host_keepLabel 13 = .ok (.getfield 36, 3) := by decide +kernel
theorem d_Host_keepLabel_16 : decode b_Host_keepLabel 16 = .ok (.aload_n 0, 1) := by decide +kernel
theorem d_Host_keepLabel_17 : decode b_Host_keepLabel 17 = .ok (.getfield 27, 3) := by decide +kernel
theorem d_Host_keepLabel_20 : decode b_Host_keepLabel 20 = .ok (.iconst 0, 1) := by decide +kernel
theorem d_Host_keepLabel_21 : decode b_Host_keepLabel 21 = .ok (.iconst 0, 1) := by decide +kernel
theorem d_Host_keepLabel_22 : decode b_Host_keepLabel 22 = .ok (.invokevirtual 151, 3) := by decide +kernel
theorem d_Host_keepLabel_25 : decode b_Host_keepLabel 25 = .ok (.goto 66, 3) := by decide +kernel
theorem d_Host_keepLabel_28 : decode b_Host_keepLabel 28 = .ok (.aload_n 0, 1) := by decide +kernel
theorem d_Host_keepLabel_29 : decode b_Host_keepLabel 29 = .ok (.getfield 50, 3) := by decide +kernel
theorem d_Host_keepLabel_32 : decode b_Host_keepLabel 32 = .ok (.aload_n 0, 1) := by decide +kernel
theorem d_Host_keepLabel_33 : decode b_Host_keepLabel 33 = .ok (.getfield 27, 3) := by decide +kernel
theorem d_Host_keepLabel_36 : decode b_Host_keepLabel 36 = .ok (.iconst 4, 1) := by decide +kernel
theorem d_Host_keepLabel_37 : decode b_Host_keepLabel 37 = .ok (.aload_n 0, 1) := by decide +kernel
theorem d_Host_keepLabel_38 : decode b_Host_keepLabel 38 = .ok (.getfield 30, 3) := by decide +kernel
theorem d_Host_keepLabel_41 : decode b_Host_keepLabel 41 = .ok (.invokevirtual 116, 3) := by decide +kernel
theorem d_Host_keepLabel_44 : decode b_Host_keepLabel 44 = .ok (.ifCond .eq 31, 3) := by decide +kernel
theorem d_Host_keepLabel_47 : decode b_Host_keepLabel 47 = .ok (.aload_n 0, 1) := by decide +kernel
theorem d_Host_keepLabel_48 : decode b_Host_keepLabel 48 = .ok (.getfield 30, 3) := by decide +kernel
theorem d_Host_keepLabel_51 : decode b_Host_keepLabel 51 = .ok (.bipush 127, 2) := by decide +kernel
theorem d_Host_keepLabel_53 : decode b_Host_keepLabel 53 = .ok (.invokevirtual 154, 3) := by decide +kernel
theorem d_Host_keepLabel_56 : decode b_Host_keepLabel 56 = .ok (.ifCond .eq 19, 3) := by decide +kernel
theorem d_Host_keepLabel_59 : decode b_Host_keepLabel 59 = .ok (.aload_n 0, 1) := by decide +kernel
theorem d_Host_keepLabel_60 : decode b_Host_keepLabel 60 = .ok (.getfield 36, 3) := by decide +kernel
theorem d_Host_keepLabel_63 : decode b_Host_keepLabel 63 = .ok (.aload_n 0, 1) := by decide +kernel
theorem d_Host_keepLabel_64 : decode b_Host_keepLabel 64 = .ok (.getfield 30, 3) := by decide +kernel
theorem d_Host_keepLabel_67 : decode b_Host_keepLabel 67 = .ok (.iconst 1, 1) := by decide +kernel
theorem d_Host_keepLabel_68 : decode b_Host_keepLabel 68 = .ok (.iconst 0, 1) := by decide +kernel
theorem d_Host_keepLabel_69 : decode b_Host_keepLabel 69 = .ok (.invokevirtual 151, 3) := by decide +kernel
theorem d_Host_keepLabel_72 : decode b_Host_keepLabel 72 = .ok (.goto 19, 3) := by decide +kernel
theorem d_Host_keepLabel_75 : decode b_Host_keepLabel 75 = .ok (.aload_n 0, 1) := by decide +kernel
theorem d_Host_keepLabel_76 : decode b_Host_keepLabel 76 = .ok (.getfield 36, 3) := by decide +kernel
theorem d_Host_keepLabel_79 : decode b_Host_keepLabel 79 = .ok (.aload_n 0, 1) := by decide +kernel
theorem d_Host_keepLabel_80 : decode b_Host_keepLabel 80 = .ok (.getfield 27, 3) := by decide +kernel
theorem d_Host_keepLabel_83 : decode b_Host_keepLabel 83 = .ok (.iconst 1, 1) := by decide +kernel
theorem d_Host_keepLabel_84 : decode b_Host_keepLabel 84 = .ok (.iconst 2, 1) := by decide +kernel
theorem d_Host_keepLabel_85 : decode b_Host_keepLabel 85 = .ok (.invokestatic 128, 3) := by decide +kernel
theorem d_Host_keepLabel_88 : decode b_Host_keepLabel 88 = .ok (.invokevirtual 151, 3) := by decide +kernel
theorem d_Host_keepLabel_91 : decode b_Host_keepLabel 91 = .ok (.return_, 1) := by decide +kernel
theorem d_Host_checkLabels_0 : decode b_Host_checkLabels 0 = .ok (.iload_n 1, 1) := by decide +kernel
theorem d_Host_checkLabels_1 : decode b_Host_checkLabels 1 = .ok (.bipush 16, 2) := by decide +kernel
theorem d_Host_checkLabels_3 : decode b_Host_checkLabels 3 = .ok (.iand, 1) := by decide +kernel
theorem d_Host_checkLabels_4 : decode b_Host_checkLabels 4 = .ok (.ifCond .eq 20, 3) := by decide +kernel
theorem d_Host_checkLabels_7 : decode b_Host_checkLabels 7 = .ok (.aload_n 0, 1) := by decide +kernel
theorem d_Host_checkLabels_8 : decode b_Host_checkLabels 8 = .ok (.getfield 36, 3) := by decide +kernel
theorem d_Host_checkLabels_11 : decode b_Host_checkLabels 11 = .ok (.invokevirtual 157, 3) := by decide +kernel
theorem d_Host_checkLabels_14 : decode b_Host_checkLabels 14 = .ok (.invokestatic 161, 3) := by decide +kernel
theorem d_Host_checkLabels_17 : decode b_Host_checkLabels 17 = .ok (.ifCond .eq 7, 3) := by decide +kernel
theorem d_Host_checkLabels_20 : decode b_Host_checkLabels 20 = .ok (.iconst 1, 1) := by decide +kernel
theorem d_Host_checkLabels_21 : decode b_Host_checkLabels 21 = .ok (.goto 4, 3) := by decide +kernel
theorem d_Host_checkLabels_24 : decode b_Host_checkLabels 24 = .ok (.iconst 0, 1) := by decide +kernel
theorem d_Host_checkLabels_25 : decode b_Host_checkLabels 25 = .ok (.istore_n 2, 1) := by decide +kernel
theorem d_Host_checkLabels_26 : decode b_Host_checkLabels 26 = .ok (.iconst 0, 1) := by decide +kernel
theorem d_Host_checkLabels_27 : decode b_Host_checkLabels 27 = .ok (.istore_n 3, 1) := by decide +kernel
theorem d_Host_checkLabels_28 : decode b_Host_checkLabels 28 = .ok (.iload_n 3, 1) := by decide +kernel
theorem d_Host_checkLabels_29 : decode b_Host_checkLabels 29 = .ok (.aload_n 0, 1) := by decide +kernel
theorem d_Host_checkLabels_30 : decode b_Host_checkLabels 30 = .ok (.getfield 36, 3) := by decide +kernel
theorem d_Host_checkLabels_33 : decode b_Host_checkLabels 33 = .ok (.invokevirtual 107, 3) := by decide +kernel
theorem d_Host_checkLabels_36 : decode b_Host_checkLabels 36 = .ok (.if_icmp .ge 85, 3) := by decide +kernel
theorem d_Host_checkLabels_39 : decode b_Host_checkLabels 39 = .ok (.aload_n 0, 1) := by decide +kernel
theorem d_Host_checkLabels_40 : decode b_Host_checkLabels 40 = .ok (.getfield 36, 3) := by decide +kernel
theorem d_Host_checkLabels_43 : decode b_Host_checkLabels 43 = .ok (.iload_n 3, 1) := by decide +kernel
theorem d_Host_checkLabels_44 : decode b_Host_checkLabels 44 = .ok (.aload_n 0, 1) := by decide +kernel
theorem d_Host_checkLabels_45 : decode b_Host_checkLabels 45 = .ok (.getfield 27, 3) := by decide +kernel
theorem d_Host_checkLabels_48 : decode b_Host_checkLabels 48 = .ok (.invokevirtual 164, 3) := by decide +kernel
theorem d_Host_checkLabels_51 : decode b_Host_checkLabels 51 = .ok (.aload_n 0, 1) := by decide +kernel
theorem d_Host_checkLabels_52 : decode b_Host_checkLabels 52 = .ok (.getfield 27, 3) := by decide +kernel
theorem d_Host_checkLabels_55 : decode b_Host_checkLabels 55 = .ok (.invokevirtual 76, 3) := by decide +kernel
theorem d_Host_checkLabels_58 : decode b_Host_checkLabels 58 = .ok (.ifCond .le 57, 3) := by decide +kernel
theorem d_Host_checkLabels_61 : decode b_Host_checkLabels 61 = .ok (.aload_n 0, 1) := by decide +kernel
theorem d_Host_checkLabels_62 : decode b_Host_checkLabels 62 = .ok (.getfield 36, 3) := by decide +kernel
theorem d_Host_checkLabels_65 : decode b_Host_checkLabels 65 = .ok (.iload_n 3, 1) := by decide +kernel
theorem d_Host_checkLabels_66 : decode b_Host_checkLabels 66 = .ok (.invokevirtual 110, 3) := by decide +kernel
theorem d_Host_checkLabels_69 : decode b_Host_checkLabels 69 = .ok (.ifCond .ne 46, 3) := by decide +kernel
theorem d_Host_checkLabels_72 : decode b_Host_checkLabels 72 = .ok (.aload_n 0, 1) := by decide +kernel
theorem d_Host_checkLabels_73 : decode b_Host_checkLabels 73 = .ok (.getfield 36, 3) := by decide +kernel
theorem d_Host_checkLabels_76 : decode b_Host_checkLabels 76 = .ok (.iload_n 3, 1) := by decide +kernel
theorem d_Host_checkLabels_77 : decode b_Host_checkLabels 77 = .ok (.invokevirtual 168, 3) := by decide +kernel
theorem d_Host_checkLabels_80 : decode b_Host_checkLabels 80 = .ok (.ifCond .eq 10, 3) := by decide +kernel
theorem d_Host_checkLabels_83 : decode b_Host_checkLabels 83 = .ok (.iload_n 1, 1) := by decide +kernel
theorem d_Host_checkLabels_84 : decode b_Host_checkLabels 84 = .ok (.bipush (-3), 2) := by decide +kernel
theorem d_Host_checkLabels_86 : decode b_Host_checkLabels 86 = .ok (.iand, 1) := by decide +kernel
theorem d_Host_checkLabels_87 : decode b_Host_checkLabels 87 = .ok (.goto 4, 3) := by decide +kernel
theorem d_Host_checkLabels_90 : decode b_Host_checkLabels 90 = .ok (.iload_n 1, 1) := by decide +kernel
theorem d_Host_checkLabels_91 : decode b_Host_checkLabels 91 = .ok (.istore 4, 2) := by decide +kernel
theorem d_Host_checkLabels_93 : decode b_Host_checkLabels 93 = .ok (.aload_n 0, 1) := by decide +kernel
theorem d_Host_checkLabels_94 : decode b_Host_checkLabels 94 = .ok (.getfield 36, 3) := by decide +kernel
theorem d_Host_checkLabels_97 : decode b_Host_checkLabels 97 = .ok (.iload_n 3, 1) := by decide +kernel
theorem d_Host_checkLabels_98 : decode b_Host_checkLabels 98 = .ok (.aload_n 0, 1) := by decide +kernel
theorem d_Host_checkLabels_99 : decode b_Host_checkLabels 99 = .ok (.getfield 59, 3) := by decide +kernel
theorem d_Host_checkLabels_102 : decode b_Host_checkLabels 102 = .ok (.aload_n 0, 1) := by decide +kernel
theorem d_Host_checkLabels_103 : decode b_Host_checkLabels 103 = .ok (.getfield 27, 3) := by decide +kernel
theorem d_Host_checkLabels_106 : decode b_Host_checkLabels 106 = .ok (.iload 4, 2) := by decide +kernel
theorem d_Host_checkLabels_108 : decode b_Host_checkLabels 108 = .ok (.iload_n 2, 1) := by decide +kernel
theorem d_Host_checkLabels_109 : decode b_Host_checkLabels 109 = .ok (.invokevirtual 171, 3) := by decide +kernel
theorem d_Host_checkLabels_112 : decode b_Host_checkLabels 112 = .ok (.invokevirtual 175, 3) := by decide +kernel
theorem d_Host_checkLabels_115 : decode b_Host_checkLabels 115 = .ok (.iinc 3 1, 3) := by decide +kernel
theorem d_Host_checkLabels_118 : decode b_Host_checkLabels 118 = .ok (.goto (-90), 3) := by decide +kernel
theorem d_Host_checkLabels_121 : decode b_Host_checkLabels 121 = .ok (.return_, 1) := by decide +kernel
theorem d_Host_writeResult_0 : decode b_Host_writeResult 0 = .ok (.aload_n 0, 1) := by decide +kernel
theorem d_Host_writeResult_1 : decode b_Host_writeResult 1 = .ok (.getfield 18, 3) := by decide +kernel
theorem d_Host_writeResult_4 : decode b_Host_writeResult 4 = .ok (.invokevirtual 80, 3) := by decide +kernel
theorem d_Host_writeResult_7 : decode b_Host_writeResult 7 = .ok (.iconst 0, 1) := by decide +kernel
theorem d_Host_writeResult_8 : decode b_Host_writeResult 8 = .ok (.istore_n 3, 1) := by decide +kernel
theorem d_Host_writeResult_9 : decode b_Host_writeResult 9 = .ok (.iload_n 3, 1) := by decide +kernel
theorem d_Host_writeResult_10 : decode b_Host_writeResult 10 = .ok (.aload_n 0, 1) := by decide +kernel
theorem d_Host_writeResult_11 : decode b_Host_writeResult 11 = .ok (.getfield 36, 3) := by decide +kernel
theorem d_Host_writeResult_14 : decode b_Host_writeResult 14 = .ok (.invokevirtual 107, 3) := by decide +kernel
theorem d_Host_writeResult_17 : decode b_Host_writeResult 17 = .ok (.if_icmp .ge 84, 3) := by decide +kernel
theorem d_Host_writeResult_20 : decode b_Host_writeResult 20 = .ok (.iload_n 3, 1) := by decide +kernel
theorem d_Host_writeResult_21 : decode b_Host_writeResult 21 = .ok (.ifCond .le 13, 3) := by decide +kernel
theorem d_Host_writeResult_24 : decode b_Host_writeResult 24 = .ok (.aload_n 0, 1) := by decide +kernel
theorem d_Host_writeResult_25 : decode b_Host_writeResult 25 = .ok (.getfield 18, 3) := by decide +kernel
theorem d_Host_writeResult_28 : decode b_Host_writeResult 28 = .ok (.bipush 46, 2) := by decide +kernel
theorem d_Host_writeResult_30 : decode b_Host_writeResult 30 = .ok (.invokevirtual 72, 3) := by decide +kernel
theorem d_Host_writeResult_33 : decode b_Host_writeResult 33 = .ok (.pop, 1) := by decide +kernel
theorem d_Host_writeResult_34 : decode b_Host_writeResult 34 = .ok (.aload_n 0, 1) := by decide +kernel
theorem d_Host_writeResult_35 : decode b_Host_writeResult 35 = .ok (.getfield 18, 3) := by decide +kernel
theorem d_Host_writeResult_38 : decode b_Host_writeResult 38 = .ok (.invokevirtual 76, 3) := by decide +kernel
theorem d_Host_writeResult_41 : decode b_Host_writeResult 41 = .ok (.istore 4, 2) := by decide +kernel
theorem d_Host_writeResult_43 : decode b_Host_writeResult 43 = .ok (.aload_n 0, 1) := by decide +kernel
theorem d_Host_writeResult_44 : decode b_Host_writeResult 44 = .ok (.getfield 36, 3) := by decide +kernel
theorem d_Host_writeResult_47 : decode b_Host_writeResult 47 = .ok (.iload_n 3, 1) := by decide +kernel
theorem d_Host_writeResult_48 : decode b_Host_writeResult 48 = .ok (.aload_n 0, 1) := by decide +kernel
theorem d_Host_writeResult_49 : decode b_Host_writeResult 49 = .ok (.getfield 27, 3) := by decide +kernel
theorem d_Host_writeResult_52 : decode b_Host_writeResult 52 = .ok (.invokevirtual 164, 3) := by decide +kernel
theorem d_Host_writeResult_55 : decode b_Host_writeResult 55 = .ok (.aload_n 0, 1) := by decide +kernel
theorem d_Host_writeResult_56 : decode b_Host_writeResult 56 = .ok (.iload_n 1, 1) := by decide +kernel
theorem d_Host_writeResult_57 : decode b_Host_writeResult 57 = .ok (.invokevirtual 179, 3) := by decide +kernel
theorem d_Host_writeResult_60 : decode b_Host_writeResult 60 = .ok (.iload_n 2, 1) := by decide +kernel
theorem d_Host_writeResult_61 : decode b_Host_writeResult 61 = .ok (.ifCond .eq 34, 3) := by decide +kernel
theorem d_Host_writeResult_64 : decode b_Host_writeResult 64 = .ok (.aload_n 0, 1) := by decide +kernel
theorem d_Host_writeResult_65 : decode b_Host_writeResult 65 = .ok (.aload_n 0, 1) := by decide +kernel
theorem d_Host_writeResult_66 : decode b_Host_writeResult 66 = .ok (.getfield 18, 3) := by decide +kernel
theorem d_Host_writeResult_69 : decode b_Host_writeResult 69 = .ok (.invokevirtual 76, 3) := by decide +kernel
theorem d_Host_writeResult_72 : decode b_Host_writeResult 72 = .ok (.iload 4, 2) := by decide +kernel
theorem d_Host_writeResult_74 : decode b_Host_writeResult 74 = .ok (.isub, 1) := by decide +kernel
theorem d_Host_writeResult_75 : decode b_Host_writeResult 75 = .ok (.iload_n 3, 1) := by decide +kernel
theorem d_Host_writeResult_76 : decode b_Host_writeResult 76 = .ok (.invokevirtual 183, 3) := by decide +kernel
theorem d_Host_writeResult_79 : decode b_Host_writeResult 79 = .ok (.ifCond .eq 16, 3) := by decide +kernel
theorem d_Host_writeResult_82 : decode b_Host_writeResult 82 = .ok (.aload_n 0, 1) := by decide +kernel
theorem d_Host_writeResult_83 : decode b_Host_writeResult 83 = .ok (.getfield 36, 3) := by decide +kernel
theorem d_Host_writeResult_86 : decode b_Host_writeResult 86 = .ok (.iload_n 3, 1) := by decide +kernel
theorem d_Host_writeResult_87 : decode b_Host_writeResult 87 = .ok (.bipush 11, 2) := by decide +kernel
theorem d_Host_writeResult_89 : decode b_Host_writeResult 89 = .ok (.invokestatic 128, 3) := by decide +kernel
theorem d_Host_writeResult_92 : decode b_Host_writeResult 92 = .ok (.invokevirtual 175, 3) := by decide +kernel
theorem d_Host_writeResult_95 : decode b_Host_writeResult 95 = .ok (.iinc 3 1, 3) := by decide +kernel
theorem d_Host_writeResult_98 : decode b_Host_writeResult 98 = .ok (.goto (-89), 3) := by decide +kernel
theorem d_Host_writeResult_101 : decode b_Host_writeResult 101 = .ok (.iload_n 2, 1) := by decide +kernel
theorem d_Host_writeResult_102 : decode b_Host_writeResult 102 = .ok (.ifCond .eq 18, 3) := by decide +kernel
theorem d_Host_writeResult_105 : decode b_Host_writeResult 105 = .ok (.aload_n 0, 1) := by decide +kernel
theorem d_Host_writeResult_106 : decode b_Host_writeResult 106 = .ok (.invokevirtual 187, 3) := by decide +kernel
theorem d_Host_writeResult_109 : decode b_Host_writeResult 109 = .ok (.ifCond .eq 11, 3) := by decide +kernel
theorem d_Host_writeResult_112 : decode b_Host_writeResult 112 = .ok (.bipush 11, 2) := by decide +kernel
theorem d_Host_writeResult_114 : decode b_Host_writeResult 114 = .ok (.invokestatic 128, 3) := by decide +kernel
theorem d_Host_writeResult_117 : decode b_Host_writeResult 117 = .ok (.goto 4, 3) := by decide +kernel
theorem d_Host_writeResult_120 : decode b_Host_writeResult 120 = .ok (.iconst 0, 1) := by decide +kernel
theorem d_Host_writeResult_121 : decode b_Host_writeResult 121 = .ok (.ireturn, 1) := by decide +kernel
theorem d_Host_writeLabel_0 : decode b_Host_writeLabel 0 = .ok (.iload_n 1, 1) := by decide +kernel
theorem d_Host_writeLabel_1 : decode b_Host_writeLabel 1 = .ok (.ifCond .eq 40, 3) := by decide +kernel
theorem d_Host_writeLabel_4 : decode b_Host_writeLabel 4 = .ok (.aload_n 0, 1) := by decide +kernel
theorem d_Host_writeLabel_5 : decode b_Host_writeLabel 5 = .ok (.getfield 27, 3) := by decide +kernel
theorem d_Host_writeLabel_8 : decode b_Host_writeLabel 8 = .ok (.bipush 127, 2) := by decide +kernel
theorem d_Host_writeLabel_10 : decode b_Host_writeLabel 10 = .ok (.invokevirtual 154, 3) := by decide +kernel
theorem d_Host_writeLabel_13 : decode b_Host_writeLabel 13 = .ok (.ifCond .eq 28, 3) := by decide +kernel
theorem d_Host_writeLabel_16 : decode b_Host_writeLabel 16 = .ok (.aload_n 0, 1) := by decide +kernel
theorem d_Host_writeLabel_17 : decode b_Host_writeLabel 17 = .ok (.getfield 18, 3) := by decide +kernel
theorem d_Host_writeLabel_20 : decode b_Host_writeLabel 20 = .ok (.invokestatic 191, 3) := by decide +kernel
theorem d_Host_writeLabel_23 : decode b_Host_writeLabel 23 = .ok (.aload_n 0, 1) := by decide +kernel
theorem d_Host_writeLabel_24 : decode b_Host_writeLabel 24 = .ok (.getfield 50, 3) := by decide +kernel
theorem d_Host_writeLabel_27 : decode b_Host_writeLabel 27 = .ok (.aload_n 0, 1) := by decide +kernel
theorem d_Host_writeLabel_28 : decode b_Host_writeLabel 28 = .ok (.getfield 27, 3) := by decide +kernel
theorem d_Host_writeLabel_31 : decode b_Host_writeLabel 31 = .ok (.aload_n 0, 1) := by decide +kernel
theorem d_Host_writeLabel_32 : decode b_Host_writeLabel 32 = .ok (.getfield 18, 3) := by decide +kernel
theorem d_Host_writeLabel_35 : decode b_Host_writeLabel 35 = .ok (.invokevirtual 113, 3) := by decide +kernel
theorem d_Host_writeLabel_38 : decode b_Host_writeLabel 38 = .ok (.goto 22, 3) := by decide +kernel
theorem d_Host_writeLabel_41 : decode b_Host_writeLabel 41 = .ok (.aload_n 0, 1) := by decide +kernel
theorem d_Host_writeLabel_42 : decode b_Host_writeLabel 42 = .ok (.getfield 18, 3) := by decide +kernel
theorem d_Host_writeLabel_45 : decode b_Host_writeLabel 45 = .ok (.aload_n 0, 1) := by decide +kernel
theorem d_Host_writeLabel_46 : decode b_Host_writeLabel 46 = .ok (.getfield 27, 3) := by decide +kernel
theorem d_Host_writeLabel_49 : decode b_Host_writeLabel 49 = .ok (.iconst 0, 1) := by decide +kernel
theorem d_Host_writeLabel_50 : decode b_Host_writeLabel 50 = .ok (.aload_n 0, 1) := by decide +kernel
theorem d_Host_writeLabel_51 : decode b_Host_writeLabel 51 = .ok (.getfield 27, 3) := by decide +kernel
theorem d_Host_writeLabel_54 : decode b_Host_writeLabel 54 = .ok (.invokevirtual 76, 3) := by decide +kernel
theorem d_Host_writeLabel_57 : decode b_Host_writeLabel 57 = .ok (.invokevirtual 120, 3) := by decide +kernel
theorem d_Host_writeLabel_60 : decode b_Host_writeLabel 60 = .ok (.return_, 1) := by decide +kernel
theorem d_Host_isWrongLength_0 : decode b_Host_isWrongLength 0 = .ok (.iload_n 2, 1) := by decide +kernel
theorem d_Host_isWrongLength_1 : decode b_Host_isWrongLength 1 = .ok (.ifCond .le 20, 3) := by decide +kernel
theorem d_Host_isWrongLength_4 : decode b_Host_isWrongLength 4 = .ok (.iload_n 2, 1) := by decide +kernel
theorem d_Host_isWrongLength_5 : decode b_Host_isWrongLength 5 = .ok (.aload_n 0, 1) := by decide +kernel
theorem d_Host_isWrongLength_6 : decode b_Host_isWrongLength 6 = .ok (.getfield 36, 3) := by decide +kernel
theorem d_Host_isWrongLength_9 : decode b_Host_isWrongLength 9 = .ok (.invokevirtual 107, 3) := by decide +kernel
theorem d_Host_isWrongLength_12 : decode b_Host_isWrongLength 12 = .ok (.iconst 1, 1) := by decide +kernel
theorem d_Host_isWrongLength_13 : decode b_Host_isWrongLength 13 = .ok (.isub, 1) := by decide +kernel
theorem d_Host_isWrongLength_14 : decode b_Host_isWrongLength 14 = .ok (.if_icmp .ne 7, 3) := by decide +kernel
theorem d_Host_isWrongLength_17 : decode b_Host_isWrongLength 17 = .ok (.iconst 1, 1) := by decide +kernel
theorem d_Host_isWrongLength_18 : decode b_Host_isWrongLength 18 = .ok (.goto 4, 3) := by decide +kernel
theorem d_Host_isWrongLength_21 : decode b_Host_isWrongLength 21 = .ok (.iconst 0, 1) := by decide +kernel
theorem d_Host_isWrongLength_22 : decode b_Host_isWrongLength 22 = .ok (.istore_n 3, 1) := by decide +kernel
theorem d_Host_isWrongLength_23 : decode b_Host_isWrongLength 23 = .ok (.iload_n 1, 1) := by decide +kernel
theorem d_Host_isWrongLength_24 : decode b_Host_isWrongLength 24 = .ok (.bipush 20, 2) := by decide +kernel
theorem d_Host_isWrongLength_26 : decode b_Host_isWrongLength 26 = .ok (.if_icmp .gt 11, 3) := by decide +kernel
theorem d_Host_isWrongLength_29 : decode b_Host_isWrongLength 29 = .ok (.iload_n 1, 1) := by decide +kernel
theorem d_Host_isWrongLength_30 : decode b_Host_isWrongLength 30 = .ok (.ifCond .ne 11, 3) := by decide +kernel
theorem d_Host_isWrongLength_33 : decode b_Host_isWrongLength 33 = .ok (.iload_n 3, 1) := by decide +kernel
theorem d_Host_isWrongLength_34 : decode b_Host_isWrongLength 34 = .ok (.ifCond .ne 7, 3) := by decide +kernel
theorem d_Host_isWrongLength_37 : decode b_Host_isWrongLength 37 = .ok (.iconst 1, 1) := by decide +kernel
theorem d_Host_isWrongLength_38 : decode b_Host_isWrongLength 38 = .ok (.goto 4, 3) := by decide +kernel
theorem d_Host_isWrongLength_41 : decode b_Host_isWrongLength 41 = .ok (.iconst 0, 1) := by decide +kernel
theorem d_Host_isWrongLength_42 : decode b_Host_isWrongLength 42 = .ok (.ireturn, 1) := by decide +kernel
theorem d_Host_isWholeWrongLength_0 : decode b_Host_isWholeWrongLength 0 = .ok (.aload_n 0, 1) := by decide +kernel
theorem d_Host_isWholeWrongLength_1 : decode b_Host_isWholeWrongLength 1 = .ok (.getfield 18, 3) := by decide +kernel
theorem d_Host_isWholeWrongLength_4 : decode b_Host_isWholeWrongLength 4 = .ok (.invokevirtual 76, 3) := by decide +kernel
theorem d_Host_isWholeWrongLength_7 : decode b_Host_isWholeWrongLength 7 = .ok (.istore_n 1, 1) := by decide +kernel
theorem d_Host_isWholeWrongLength_8 : decode b_Host_isWholeWrongLength 8 = .ok (.iload_n 1, 1) := by decide +kernel
theorem d_Host_isWholeWrongLength_9 : decode b_Host_isWholeWrongLength 9 = .ok (.ifCond .le 21, 3) := by decide +kernel
theorem d_Host_isWholeWrongLength_12 : decode b_Host_isWholeWrongLength 12 = .ok (.aload_n 0, 1) := by decide +kernel
theorem d_Host_isWholeWrongLength_13 : decode b_Host_isWholeWrongLength 13 = .ok (.getfield 18, 3) := by decide +kernel
theorem d_Host_isWholeWrongLength_16 : decode b_Host_isWholeWrongLength 16 = .ok (.iload_n 1, 1) := by decide +kernel
theorem d_Host_isWholeWrongLength_17 : decode b_Host_isWholeWrongLength 17 = .ok (.iconst 1, 1) := by decide +kernel
theorem d_Host_isWholeWrongLength_18 : decode b_Host_isWholeWrongLength 18 = .ok (.isub, 1) := by decide +kernel
theorem d_Host_isWholeWrongLength_19 : decode b_Host_isWholeWrongLength 19 = .ok (.invokevirtual 104, 3) := by decide +kernel
theorem d_Host_isWholeWrongLength_22 : decode b_Host_isWholeWrongLength 22 = .ok (.bipush 46, 2) := by decide +kernel
theorem d_Host_isWholeWrongLength_24 : decode b_Host_isWholeWrongLength 24 = .ok (.if_icmp .ne 6, 3) := by decide +kernel
theorem d_Host_isWholeWrongLength_27 : decode b_Host_isWholeWrongLength 27 = .ok (.iinc 1 ( -1), 3) := by decide +kernel
theorem d_Host_isWholeWrongLength_30 : decode b_Host_isWholeWrongLength 30 = .ok (.iload_n 1, 1) := by decide +kernel
theorem d_Host_isWholeWrongLength_31 : decode b_Host_isWholeWrongLength 31 = .ok (.ifCond .eq 9, 3) := by decide +kernel
theorem d_Host_isWholeWrongLength_34 : decode b_Host_isWholeWrongLength 34 = .ok (.iload_n 1, 1) := by decide +kernel
theorem d_Host_isWholeWrongLength_35 : decode b_Host_isWholeWrongLength 35 = .ok (.bipush 60, 2) := by decide +kernel
theorem d_Host_isWholeWrongLength_37 : decode b_Host_isWholeWrongLength 37 = .ok (.if_icmp .le 7, 3) := by decide +kernel
theorem d_Host_isWholeWrongLength_40 : decode b_Host_isWholeWrongLength 40 = .ok (.iconst 1, 1) := by decide +kernel
theorem d_Host_isWholeWrongLength_41 : decode b_Host_isWholeWrongLength 41 = .ok (.goto 4, 3) := by decide +kernel
theorem d_Host_isWholeWrongLength_44 : decode b_Host_isWholeWrongLength 44 = .ok (.iconst 0, 1) := by decide +kernel
theorem d_Host_isWholeWrongLength_45 : decode b_Host_isWholeWrongLength 45 = .ok (.ireturn, 1) := by decide +kernel
end
section
theorem d_Mod_init_0 : decode b_Mod_init 0 = .ok (.aload_n 0, 1) := by decide +kernel
theorem d_Mod_init_1 : decode b_Mod_init 1 = .ok (.invokespecial 1, 3) := by decide +kernel
theorem d_Mod_init_4 : decode b_Mod_init 4 = .ok (.aload_n 0, 1) := by decide +kernel
theorem d_Mod_init_5 : decode b_Mod_init 5 = .ok (.bipush 48, 2) := by decide +kernel
theorem d_Mod_init_7 : decode b_Mod_init 7 = .ok (.newarray .int, 2) := by decide +kernel
theorem d_Mod_init_9 : decode b_Mod_init 9 = .ok (.putfield 7, 3) := by decide +kernel
theorem d_Mod_init_12 : decode b_Mod_init 12 = .ok (.aload_n 0, 1) := by decide +kernel
theorem d_Mod_init_13 : decode b_Mod_init 13 = .ok (.sipush 2000, 3) := by decide +kernel
theorem d_Mod_init_16 : decode b_Mod_init 16 = .ok (.newarray .int, 2) := by decide +kernel
theorem d_Mod_init_18 : decode b_Mod_init 18 = .ok (.putfield 13, 3) := by decide +kernel
theorem d_Mod_init_21 : decode b_Mod_init 21 = .ok (.aload_n 0, 1) := by decide +kernel
theorem d_Mod_init_22 : decode b_Mod_init 22 = .ok (.sipush 200, 3) := by decide +kernel
theorem d_Mod_init_25 : decode b_Mod_init 25 = .ok (.newarray .int, 2) := by decide +kernel
theorem d_Mod_init_27 : decode b_Mod_init 27 = .ok (.putfield 16, 3) := by decide +kernel
theorem d_Mod_init_30 : decode b_Mod_init 30 = .ok (.aload_n 0, 1) := by decide +kernel
theorem d_Mod_init_31 : decode b_Mod_init 31 = .ok (.sipush 200, 3) := by decide +kernel
theorem d_Mod_init_34 : decode b_Mod_init 34 = .ok (.newarray .int, 2) := by decide +kernel
theorem d_Mod_init_36 : decode b_Mod_init 36 = .ok (.putfield 19, 3) := by decide +kernel
theorem d_Mod_init_39 : decode b_Mod_init 39 = .ok (.aload_n 0, 1) := by decide +kernel
theorem d_Mod_init_40 : decode b_Mod_init 40 = .ok (.bipush 50, 2) := by decide +kernel
theorem d_Mod_init_42 : decode b_Mod_init 42 = .ok (.newarray .int, 2) := by decide +kernel
theorem d_Mod_init_44 : decode b_Mod_init 44 = .ok (.putfield 22, 3) := by decide +kernel
theorem d_Mod_init_47 : decode b_Mod_init 47 = .ok (.aload_n 0, 1) := by decide +kernel
theorem d_Mod_init_48 : decode b_Mod_init 48 = .ok (.bipush 50, 2) := by decide +kernel
theorem d_Mod_init_50 : decode b_Mod_init 50 = .ok (.newarray .int, 2) := by decide +kernel
theorem d_Mod_init_52 : decode b_Mod_init 52 = .ok (.putfield 25, 3) := by decide +kernel
theorem d_Mod_init_55 : decode b_Mod_init 55 = .ok (.aload_n 0, 1) := by decide +kernel
theorem d_Mod_init_56 : decode b_Mod_init 56 = .ok (.bipush 50, 2) := by decide +kernel
theorem d_Mod_init_58 : decode b_Mod_init 58 = .ok (.newarray .int, 2) := by decide +kernel
theorem d_Mod_init_60 : decode b_Mod_init 60 = .ok (.putfield 28, 3) := by decide +kernel
theorem d_Mod_init_63 : decode b_Mod_init 63 = .ok (.aload_n 0, 1) := by decide +kernel
theorem d_Mod_init_64 : decode b_Mod_init 64 = .ok (.bipush 50, 2) := by decide +kernel
theorem d_Mod_init_66 : decode b_Mod_init 66 = .ok (.newarray .boolean, 2) := by decide +kernel
theorem d_Mod_init_68 : decode b_Mod_init 68 = .ok (.putfield 31, 3) := by decide +kernel
theorem d_Mod_init_71 : decode b_Mod_init 71 = .ok (.aload_n 0, 1) := by decide +kernel
theorem d_Mod_init_72 : decode b_Mod_init 72 = .ok (.sipush 300, 3) := by decide +kernel
theorem d_Mod_init_75 : decode b_Mod_init 75 = .ok (.newarray .int, 2) := by decide +kernel
theorem d_Mod_init_77 : decode b_Mod_init 77 = .ok (.putfield 35, 3) := by decide +kernel
theorem d_Mod_init_80 : decode b_Mod_init 80 = .ok (.aload_n 0, 1) := by decide +kernel
theorem d_Mod_init_81 : decode b_Mod_init 81 = .ok (.sipush 200, 3) := by decide +kernel
theorem d_Mod_init_84 : decode b_Mod_init 84 = .ok (.newarray .boolean, 2) := by decide +kernel
theorem d_Mod_init_86 : decode b_Mod_init 86 = .ok (.putfield 38, 3) := by decide +kernel
theorem d_Mod_init_89 : decode b_Mod_init 89 = .ok (.return_, 1) := by decide +kernel
theorem d_Mod_within_0 : decode b_Mod_within 0 = .ok (.iload_n 0, 1) := by decide +kernel
theorem d_Mod_within_1 : decode b_Mod_within 1 = .ok (.iload_n 1, 1) := by decide +kernel
theorem d_Mod_within_2 : decode b_Mod_within 2 = .ok (.if_icmp .lt 12, 3) := by decide +kernel
theorem d_Mod_within_5 : decode b_Mod_within 5 = .ok (.iload_n 0, 1) := by decide +kernel
theorem d_Mod_within_6 : decode b_Mod_within 6 = .ok (.iload_n 2, 1) := by decide +kernel
theorem d_Mod_within_7 : decode b_Mod_within 7 = .ok (.if_icmp .gt 7, 3) := by decide +kernel
theorem d_Mod_within_10 : decode b_Mod_within 10 = .ok (.iconst 1, 1) := by decide +kernel
theorem d_Mod_within_11 : decode b_Mod_within 11 = .ok (.goto 4, 3) := by decide +kernel
theorem d_Mod_within_14 : decode b_Mod_within 14 = .ok (.iconst 0, 1) := by decide +kernel
theorem d_Mod_within_15 : decode b_Mod_within 15 = .ok (.ireturn, 1) := by decide +kernel
theorem d_Mod_isGood_0 : decode b_Mod_isGood 0 = .ok (.iload_n 0, 1) := by decide +kernel
theorem d_Mod_isGood_1 : decode b_Mod_isGood 1 = .ok (.bipush 45, 2) := by decide +kernel
theorem d_Mod_isGood_3 : decode b_Mod_isGood 3 = .ok (.if_icmp .eq 51, 3) := by decide +kernel
theorem d_Mod_isGood_6 : decode b_Mod_isGood 6 = .ok (.iload_n 0, 1) := by decide +kernel
theorem d_Mod_isGood_7 : decode b_Mod_isGood 7 = .ok (.bipush 46, 2) := by decide +kernel
theorem d_Mod_isGood_9 : decode b_Mod_isGood 9 = .ok (.if_icmp .eq 45, 3) := by decide +kernel
theorem d_Mod_isGood_12 : decode b_Mod_isGood 12 = .ok (.iload_n 0, 1) := by decide +kernel
theorem d_Mod_isGood_13 : decode b_Mod_isGood 13 = .ok (.bipush 48, 2) := by decide +kernel
theorem d_Mod_isGood_15 : decode b_Mod_isGood 15 = .ok (.bipush 57, 2) := by decide +kernel
theorem d_Mod_isGood_17 : decode b_Mod_isGood 17 = .ok (.invokestatic 41, 3) := by decide +kernel
theorem d_Mod_isGood_20 : decode b_Mod_isGood 20 = .ok (.ifCond .ne 34, 3) := by decide +kernel
theorem d_Mod_isGood_23 : decode b_Mod_isGood 23 = .ok (.iload_n 0, 1) := by decide +kernel
theorem d_Mod_isGood_24 : decode b_Mod_isGood 24 = .ok (.bipush 97, 2) := by decide +kernel
theorem d_Mod_isGood_26 : decode b_Mod_isGood 26 = .ok (.bipush 122, 2) := by decide +kernel
theorem d_Mod_isGood_28 : decode b_Mod_isGood 28 = .ok (.invokestatic 41, 3) := by decide +kernel
theorem d_Mod_isGood_31 : decode b_Mod_isGood 31 = .ok (.ifCond .ne 23, 3) := by decide +kernel
theorem d_Mod_isGood_34 : decode b_Mod_isGood 34 = .ok (.iload_n 0, 1) := by decide +kernel
theorem d_Mod_isGood_35 : decode b_Mod_isGood 35 = .ok (.sipush 224, 3) := by decide +kernel
theorem d_Mod_isGood_38 : decode b_Mod_isGood 38 = .ok (.sipush 255, 3) := by decide +kernel
theorem d_Mod_isGood_41 : decode b_Mod_isGood 41 = .ok (.invokestatic 41, 3) := by decide +kernel
theorem d_Mod_isGood_44 : decode b_Mod_isGood 44 = .ok (.ifCond .eq 14, 3) := by decide +kernel
theorem d_Mod_isGood_47 : decode b_Mod_isGood 47 = .ok (.iload_n 0, 1) := by decide +kernel
theorem d_Mod_isGood_48 : decode b_Mod_isGood 48 = .ok (.sipush 247, 3) := by decide +kernel
theorem d_Mod_isGood_51 : decode b_Mod_isGood 51 = .ok (.if_icmp .eq 7, 3) := by decide +kernel
theorem d_Mod_isGood_54 : decode b_Mod_isGood 54 = .ok (.iconst 1, 1) := by decide +kernel
theorem d_Mod_isGood_55 : decode b_Mod_isGood 55 = .ok (.goto 4, 3) := by decide +kernel
theorem d_Mod_isGood_58 : decode b_Mod_isGood 58 = .ok (.iconst 0, 1) := by decide +kernel
theorem d_Mod_isGood_59 : decode b_Mod_isGood 59 = .ok (.istore_n 1, 1) := by decide +kernel
theorem d_Mod_isGood_60 : decode b_Mod_isGood 60 = .ok (.iload_n 0, 1) := by decide +kernel
theorem d_Mod_isGood_61 : decode b_Mod_isGood 61 = .ok (.invokestatic 45, 3) := by decide +kernel
theorem d_Mod_isGood_64 : decode b_Mod_isGood 64 = .ok (.ifCond .gt 50, 3) := by decide +kernel
theorem d_Mod_isGood_67 : decode b_Mod_isGood 67 = .ok (.iload_n 0, 1) := by decide +kernel
theorem d_Mod_isGood_68 : decode b_Mod_isGood 68 = .ok (.sipush 945, 3) := by decide +kernel
theorem d_Mod_isGood_71 : decode b_Mod_isGood 71 = .ok (.sipush 969, 3) := by decide +kernel
theorem d_Mod_isGood_74 : decode b_Mod_isGood 74 = .ok (.invokestatic 41, 3) := by decide +kernel
theorem d_Mod_isGood_77 : decode b_Mod_isGood 77 = .ok (.ifCond .eq 10, 3) := by decide +kernel
theorem d_Mod_isGood_80 : decode b_Mod_isGood 80 = .ok (.iload_n 0, 1) := by decide +kernel
theorem d_Mod_isGood_81 : decode b_Mod_isGood 81 = .ok (.sipush 962, 3) := by decide +kernel
theorem d_Mod_isGood_84 : decode b_Mod_isGood 84 = .ok (.if_icmp .ne 30, 3) := by decide +kernel
theorem d_Mod_isGood_87 : decode b_Mod_isGood 87 = .ok (.iload_n 0, 1) := by decide +kernel
theorem d_Mod_isGood_88 : decode b_Mod_isGood 88 = .ok (.sipush 1488, 3) := by decide +kernel
theorem d_Mod_isGood_91 : decode b_Mod_isGood 91 = .ok (.sipush 1514, 3) := by decide +kernel
theorem d_Mod_isGood_94 : decode b_Mod_isGood 94 = .ok (.invokestatic 41, 3) := by decide +kernel
theorem d_Mod_isGood_97 : decode b_Mod_isGood 97 = .ok (.ifCond .ne 17, 3) := by decide +kernel
theorem d_Mod_isGood_100 : decode b_Mod_isGood 100 = .ok (.iload_n 0, 1) := by decide +kernel
theorem d_Mod_isGood_101 : decode b_Mod_isGood 101 = .ok (.sipush 1575, 3) := by decide +kernel
theorem d_Mod_isGood_104 : decode b_Mod_isGood 104 = .ok (.if_icmp .eq 10, 3) := by decide +kernel
theorem d_Mod_isGood_107 : decode b_Mod_isGood 107 = .ok (.iload_n 0, 1) := by decide +kernel
theorem d_Mod_isGood_108 : decode b_Mod_isGood 108 = .ok (.sipush 1576, 3) := by decide +kernel
theorem d_Mod_isGood_111 : decode b_Mod_isGood 111 = .ok (.if_icmp .ne 7, 3) := by decide +kernel
theorem d_Mod_isGood_114 : decode b_Mod_isGood 114 = .ok (.iconst 1, 1) := by decide +kernel
theorem d_Mod_isGood_115 : decode b_Mod_isGood 115 = .ok (.goto 4, 3) := by decide +kernel
theorem d_Mod_isGood_118 : decode b_Mod_isGood 118 = .ok (.iconst 0, 1) := by decide +kernel
theorem d_Mod_isGood_119 : decode b_Mod_isGood 119 = .ok (.istore_n 2, 1) := by decide +kernel
theorem d_Mod_isGood_120 : decode b_Mod_isGood 120 = .ok (.iload_n 1, 1) := by decide +kernel
theorem d_Mod_isGood_121 : decode b_Mod_isGood 121 = .ok (.ifCond .ne 58, 3) := by decide +kernel
theorem d_Mod_isGood_124 : decode b_Mod_isGood 124 = .ok (.iload_n 2, 1) := by decide +kernel
theorem d_Mod_isGood_125 : decode b_Mod_isGood 125 = .ok (.ifCond .ne 54, 3) := by decide +kernel
theorem d_Mod_isGood_128 : decode b_Mod_isGood 128 = .ok (.iload_n 0, 1) := by decide +kernel
theorem d_Mod_isGood_129 : decode b_Mod_isGood 129 = .ok (.sipush 1632, 3) := by decide +kernel
theorem d_Mod_isGood_132 : decode b_Mod_isGood 132 = .ok (.sipush 1641, 3) := by decide +kernel
theorem d_Mod_isGood_135 : decode b_Mod_isGood 135 = .ok (.invokestatic 41, 3) := by decide +kernel
theorem d_Mod_isGood_138 : decode b_Mod_isGood 138 = .ok (.ifCond .ne 41, 3) := by decide +kernel
theorem d_Mod_isGood_141 : decode b_Mod_isGood 141 = .ok (.iload_n 0, 1) := by decide +kernel
theorem d_Mod_isGood_142 : decode b_Mod_isGood 142 = .ok (.sipush 1776, 3) := by decide +kernel
theorem d_Mod_isGood_145 : decode b_Mod_isGood 145 = .ok (.sipush 1785, 3) := by decide +kernel
theorem d_Mod_isGood_148 : decode b_Mod_isGood 148 = .ok (.invokestatic 41, 3) := by decide +kernel
theorem d_Mod_isGood_151 : decode b_Mod_isGood 151 = .ok (.ifCond .ne 28, 3) := by decide +kernel
theorem d_Mod_isGood_154 : decode b_Mod_isGood 154 = .ok (.iload_n 0, 1) := by decide +kernel
theorem d_Mod_isGood_155 : decode b_Mod_isGood 155 = .ok (.sipush 2325, 3) := by decide +kernel
theorem d_Mod_isGood_158 : decode b_Mod_isGood 158 = .ok (.sipush 2361, 3) := by decide +kernel
theorem d_Mod_isGood_161 : decode b_Mod_isGood 161 = .ok (.invokestatic 41, 3) := by decide +kernel
theorem d_Mod_isGood_164 : decode b_Mod_isGood 164 = .ok (.ifCond .ne 15, 3) := by decide +kernel
theorem d_Mod_isGood_167 : decode b_Mod_isGood 167 = .ok (.iload_n 0, 1) := by decide +kernel
theorem d_Mod_isGood_168 : decode b_Mod_isGood 168 = .ok (.sipush 19968, 3) := by decide +kernel
theorem d_Mod_isGood_171 : decode b_Mod_isGood 171 = .ok (.ldc 49, 2) := by decide +kernel
theorem d_Mod_isGood_173 : decode b_Mod_isGood 173 = .ok (.invokestatic 41, 3) := by decide +kernel
theorem d_Mod_isGood_176 : decode b_Mod_isGood 176 = .ok (.ifCond .eq 7, 3) := by decide +kernel
theorem d_Mod_isGood_179 : decode b_Mod_isGood 179 = .ok (.iconst 1, 1) := by decide +kernel
theorem d_Mod_isGood_180 : decode b_Mod_isGood 180 = .ok (.goto 4, 3) := by decide +kernel
theorem d_Mod_isGood_183 : decode b_Mod_isGood 183 = .ok (.iconst 0, 1) := by decide +kernel
theorem d_Mod_isGood_184 : decode b_Mod_isGood 184 = .ok (.ireturn, 1) := by decide +kernel
theorem d_Mod_isPlain_0 : decode b_Mod_isPlain 0 = .ok (.iload_n 0, 1) := by decide +kernel
theorem d_Mod_isPlain_1 : decode b_Mod_isPlain 1 = .ok (.iconst 0, 1) := by decide +kernel
theorem d_Mod_isPlain_2 : decode b_Mod_isPlain 2 = .ok (.bipush 127, 2) := by decide +kernel
theorem d_Mod_isPlain_4 : decode b_Mod_isPlain 4 = .ok (.invokestatic 41, 3) := by decide +kernel
theorem d_Mod_isPlain_7 : decode b_Mod_isPlain 7 = .ok (.ifCond .eq 25, 3) := by decide +kernel
theorem d_Mod_isPlain_10 : decode b_Mod_isPlain 10 = .ok (.iload_n 0, 1) := by decide +kernel
theorem d_Mod_isPlain_11 : decode b_Mod_isPlain 11 = .ok (.invokestatic 50, 3) := by decide +kernel
theorem d_Mod_isPlain_14 : decode b_Mod_isPlain 14 = .ok (.ifCond .ne 18, 3) := by decide +kernel
theorem d_Mod_isPlain_17 : decode b_Mod_isPlain 17 = .ok (.iload_n 0, 1) := by decide +kernel
theorem d_Mod_isPlain_18 : decode b_Mod_isPlain 18 = .ok (.bipush 65, 2) := by decide +kernel
theorem d_Mod_isPlain_20 : decode b_Mod_isPlain 20 = .ok (.bipush 90, 2) := by decide +kernel
theorem d_Mod_isPlain_22 : decode b_Mod_isPlain 22 = .ok (.invokestatic 41, 3) := by decide +kernel
theorem d_Mod_isPlain_25 : decode b_Mod_isPlain 25 = .ok (.ifCond .ne 7, 3) := by decide +kernel
theorem d_Mod_isPlain_28 : decode b_Mod_isPlain 28 = .ok (.iconst 1, 1) := by decide +kernel
theorem d_Mod_isPlain_29 : decode b_Mod_isPlain 29 = .ok (.goto 4, 3) := by decide +kernel
theorem d_Mod_isPlain_32 : decode b_Mod_isPlain 32 = .ok (.iconst 0, 1) := by decide +kernel
theorem d_Mod_isPlain_33 : decode b_Mod_isPlain 33 = .ok (.ireturn, 1) := by decide +kernel
theorem d_Mod_image_0 : decode b_Mod_image 0 = .ok (.iload_n 0, 1) := by decide +kernel
theorem d_Mod_image_1 : decode b_Mod_image 1 = .ok (.bipush 65, 2) := by decide +kernel
theorem d_Mod_image_3 : decode b_Mod_image 3 = .ok (.bipush 90, 2) := by decide +kernel
theorem d_Mod_image_5 : decode b_Mod_image 5 = .ok (.invokestatic 41, 3) := by decide +kernel
theorem d_Mod_image_8 : decode b_Mod_image 8 = .ok (.ifCond .ne 43, 3) := by decide +kernel
theorem d_Mod_image_11 : decode b_Mod_image 11 = .ok (.iload_n 0, 1) := by decide +kernel
theorem d_Mod_image_12 : decode b_Mod_image 12 = .ok (.sipush 192, 3) := by decide +kernel
theorem d_Mod_image_15 : decode b_Mod_image 15 = .ok (.sipush 222, 3) := by decide +kernel
theorem d_Mod_image_18 : decode b_Mod_image 18 = .ok (.invokestatic 41, 3) := by decide +kernel
theorem d_Mod_image_21 : decode b_Mod_image 21 = .ok (.ifCond .eq 10, 3) := by decide +kernel
theorem d_Mod_image_24 : decode b_Mod_image 24 = .ok (.iload_n 0, 1) := by decide +kernel
theorem d_Mod_image_25 : decode b_Mod_image 25 = .ok (.sipush 215, 3) := by decide +kernel
theorem d_Mod_image_28 : decode b_Mod_image 28 = .ok (.if_icmp .ne 23, 3) := by decide +kernel
theorem d_Mod_image_31 : decode b_Mod_image 31 = .ok (.iload_n 0, 1) := by decide +kernel
theorem d_Mod_image_32 : decode b_Mod_image 32 = .ok (.sipush 913, 3) := by decide +kernel
theorem d_Mod_image_35 : decode b_Mod_image 35 = .ok (.sipush 937, 3) := by decide +kernel
theorem d_Mod_image_38 : decode b_Mod_image 38 = .ok (.invokestatic 41, 3) := by decide +kernel
theorem d_Mod_image_41 : decode b_Mod_image 41 = .ok (.ifCond .eq 15, 3) := by decide +kernel
theorem d_Mod_image_44 : decode b_Mod_image 44 = .ok (.iload_n 0, 1) := by decide +kernel
theorem d_Mod_image_45 : decode b_Mod_image 45 = .ok (.sipush 930, 3) := by decide +kernel
theorem d_Mod_image_48 : decode b_Mod_image 48 = .ok (.if_icmp .eq 8, 3) := by decide +kernel
theorem d_Mod_image_51 : decode b_Mod_image 51 = .ok (.iload_n 0, 1) := by decide +kernel
theorem d_Mod_image_52 : decode b_Mod_image 52 = .ok (.bipush 32, 2) := by decide +kernel
theorem d_Mod_image_54 : decode b_Mod_image 54 = .ok (.iadd, 1) := by decide +kernel
theorem d_Mod_image_55 : decode b_Mod_image 55 = .ok (.ireturn, 1) := by decide +kernel
theorem d_Mod_image_56 : decode b_Mod_image 56 = .ok (.iload_n 0, 1) := by decide +kernel
theorem d_Mod_image_57 : decode b_Mod_image 57 = .ok (.sipush 12290, 3) := by decide +kernel
theorem d_Mod_image_60 : decode b_Mod_image 60 = .ok (.if_icmp .ne 6, 3) := by decide +kernel
theorem d_Mod_image_63 : decode b_Mod_image 63 = .ok (.bipush 46, 2) := by decide +kernel
theorem d_Mod_image_65 : decode b_Mod_image 65 = .ok (.ireturn, 1) := by decide +kernel
theorem d_Mod_image_66 : decode b_Mod_image 66 = .ok (.iload_n 0, 1) := by decide +kernel
theorem d_Mod_image_67 : decode b_Mod_image 67 = .ok (.ldc 54, 2) := by decide +kernel
theorem d_Mod_image_69 : decode b_Mod_image 69 = .ok (.ldc 55, 2) := by decide +kernel
theorem d_Mod_image_71 : decode b_Mod_image 71 = .ok (.invokestatic 41, 3) := by decide +kernel
theorem d_Mod_image_74 : decode b_Mod_image 74 = .ok (.ifCond .eq 28, 3) := by decide +kernel
theorem d_Mod_image_77 : decode b_Mod_image 77 = .ok (.iload_n 0, 1) := by decide +kernel
theorem d_Mod_image_78 : decode b_Mod_image 78 = .ok (.ldc 56, 2) := by decide +kernel
theorem d_Mod_image_80 : decode b_Mod_image 80 = .ok (.isub, 1) := by decide +kernel
theorem d_Mod_image_81 : decode b_Mod_image 81 = .ok (.istore_n 1, 1) := by decide +kernel
theorem d_Mod_image_82 : decode b_Mod_image 82 = .ok (.iload_n 1, 1) := by decide +kernel
theorem d_Mod_image_83 : decode b_Mod_image 83 = .ok (.bipush 65, 2) := by decide +kernel
theorem d_Mod_image_85 : decode b_Mod_image 85 = .ok (.bipush 90, 2) := by decide +kernel
theorem d_Mod_image_87 : decode b_Mod_image 87 = .ok (.invokestatic 41, 3) := by decide +kernel
theorem d_Mod_image_90 : decode b_Mod_image 90 = .ok (.ifCond .eq 10, 3) := by decide +kernel
theorem d_Mod_image_93 : decode b_Mod_image 93 = .ok (.iload_n 1, 1) := by decide +kernel
theorem d_Mod_image_94 : decode b_Mod_image 94 = .ok (.bipush 32, 2) := by decide +kernel
theorem d_Mod_image_96 : decode b_Mod_image 96 = .ok (.iadd, 1) := by decide +kernel
theorem d_Mod_image_97 : decode b_Mod_image 97 = .ok (.goto 4, 3) := by decide +kernel
theorem d_Mod_image_100 : decode b_Mod_image 100 = .ok (.iload_n 1, 1) := by decide +kernel
theorem d_Mod_image_101 : decode b_Mod_image 101 = .ok (.ireturn, 1) := by decide +kernel
theorem d_Mod_image_102 : decode b_Mod_image 102 = .ok (.iconst (-1), 1) := by decide +kernel
theorem d_Mod_image_103 : decode b_Mod_image 103 = .ok (.ireturn, 1) := by decide +kernel
theorem d_Mod_isOdd_0 : decode b_Mod_isOdd 0 = .ok (.iload_n 0, 1) := by decide +kernel
theorem d_Mod_isOdd_1 : decode b_Mod_isOdd 1 = .ok (.sipush 223, 3) := by decide +kernel
theorem d_Mod_isOdd_4 : decode b_Mod_isOdd 4 = .ok (.if_icmp .eq 24, 3) := by decide +kernel
theorem d_Mod_isOdd_7 : decode b_Mod_isOdd 7 = .ok (.iload_n 0, 1) := by decide +kernel
theorem d_Mod_isOdd_8 : decode b_Mod_isOdd 8 = .ok (.sipush 962, 3) := by decide +kernel
theorem d_Mod_isOdd_11 : decode b_Mod_isOdd 11 = .ok (.if_icmp .eq 17, 3) := by decide +kernel
theorem d_Mod_isOdd_14 : decode b_Mod_isOdd 14 = .ok (.iload_n 0, 1) := by decide +kernel
theorem d_Mod_isOdd_15 : decode b_Mod_isOdd 15 = .ok (.sipush 8204, 3) := by decide +kernel
theorem d_Mod_isOdd_18 : decode b_Mod_isOdd 18 = .ok (.if_icmp .eq 10, 3) := by decide +kernel
theorem d_Mod_isOdd_21 : decode b_Mod_isOdd 21 = .ok (.iload_n 0, 1) := by decide +kernel
theorem d_Mod_isOdd_22 : decode b_Mod_isOdd 22 = .ok (.sipush 8205, 3) := by decide +kernel
theorem d_Mod_isOdd_25 : decode b_Mod_isOdd 25 = .ok (.if_icmp .ne 7, 3) := by decide +kernel
theorem d_Mod_isOdd_28 : decode b_Mod_isOdd 28 = .ok (.iconst 1, 1) := by decide +kernel
theorem d_Mod_isOdd_29 : decode b_Mod_isOdd 29 = .ok (.goto 4, 3) := by decide +kernel
theorem d_Mod_isOdd_32 : decode b_Mod_isOdd 32 = .ok (.iconst 0, 1) := by decide +kernel
theorem d_Mod_isOdd_33 : decode b_Mod_isOdd 33 = .ok (.ireturn, 1) := by decide +kernel
theorem d_Mod_order_0 : decode b_Mod_order 0 = .ok (.iload_n 0, 1) := by decide +kernel
theorem d_Mod_order_1 : decode b_Mod_order 1 = .ok (.lookupswitch 73 #[(768, 59), (769, 59), (776, 59), (807, 63), (1614, 67), (2381, 70)], 59) := by decide +kernel
theorem d_Mod_order_60 : decode b_Mod_order 60 = .ok (.sipush 230, 3) := by decide +kernel
theorem d_Mod_order_63 : decode b_Mod_order 63 = .ok (.ireturn, 1) := by decide +kernel
theorem d_Mod_order_64 : decode b_Mod_order 64 = .ok (.sipush 202, 3) := by decide +kernel
theorem d_Mod_order_67 : decode b_Mod_order 67 = .ok (.ireturn, 1) := by decide +kernel
theorem d_Mod_order_68 : decode b_Mod_order 68 = .ok (.bipush 30, 2) := by decide +kernel
theorem d_Mod_order_70 : decode b_Mod_order 70 = .ok (.ireturn, 1) := by decide +kernel
theorem d_Mod_order_71 : decode b_Mod_order 71 = .ok (.bipush 9, 2) := by decide +kernel
theorem d_Mod_order_73 : decode b_Mod_order 73 = .ok (.ireturn, 1) := by decide +kernel
theorem d_Mod_order_74 : decode b_Mod_order 74 = .ok (.iconst 0, 1) := by decide +kernel
theorem d_Mod_order_75 : decode b_Mod_order 75 = .ok (.ireturn, 1) := by decide +kernel
theorem d_Mod_direction_0 : decode b_Mod_direction 0 = .ok (.iload_n 0, 1) := by decide +kernel
theorem d_Mod_direction_1 : decode b_Mod_direction 1 = .ok (.sipush 1488, 3) := by decide +kernel
theorem d_Mod_direction_4 : decode b_Mod_direction 4 = .ok (.sipush 1514, 3) := by decide +kernel
theorem d_Mod_direction_7 : decode b_Mod_direction 7 = .ok (.invokestatic 41, 3) := by decide +kernel
theorem d_Mod_direction_10 : decode b_Mod_direction 10 = .ok (.ifCond .eq 5, 3) := by decide +kernel
theorem d_Mod_direction_13 : decode b_Mod_direction 13 = .ok (.iconst 1, 1) := by decide +kernel
theorem d_Mod_direction_14 : decode b_Mod_direction 14 = .ok (.ireturn, 1) := by decide +kernel
theorem d_Mod_direction_15 : decode b_Mod_direction 15 = .ok (.iload_n 0, 1) := by decide +kernel
theorem d_Mod_direction_16 : decode b_Mod_direction 16 = .ok (.sipush 1575, 3) := by decide +kernel
theorem d_Mod_direction_19 : decode b_Mod_direction 19 = .ok (.if_icmp .eq 10, 3) := by decide +kernel
theorem d_Mod_direction_22 : decode b_Mod_direction 22 = .ok (.iload_n 0, 1) := by decide +kernel
theorem d_Mod_direction_23 : decode b_Mod_direction 23 = .ok (.sipush 1576, 3) := by decide +kernel
theorem d_Mod_direction_26 : decode b_Mod_direction 26 = .ok (.if_icmp .ne 5, 3) := by decide +kernel
theorem d_Mod_direction_29 : decode b_Mod_direction 29 = .ok (.iconst 2, 1) := by decide +kernel
theorem d_Mod_direction_30 : decode b_Mod_direction 30 = .ok (.ireturn, 1) := by decide +kernel
theorem d_Mod_direction_31 : decode b_Mod_direction 31 = .ok (.iload_n 0, 1) := by decide +kernel
theorem d_Mod_direction_32 : decode b_Mod_direction 32 = .ok (.sipush 1632, 3) := by decide +kernel
theorem d_Mod_direction_35 : decode b_Mod_direction 35 = .ok (.sipush 1641, 3) := by decide +kernel
theorem d_Mod_direction_38 : decode b_Mod_direction 38 = .ok (.invokestatic 41, 3) := by decide +kernel
theorem d_Mod_direction_41 : decode b_Mod_direction 41 = .ok (.ifCond .eq 5, 3) := by decide +kernel
theorem d_Mod_direction_44 : decode b_Mod_direction 44 = .ok (.iconst 3, 1) := by decide +kernel
theorem d_Mod_direction_45 : decode b_Mod_direction 45 = .ok (.ireturn, 1) := by decide +kernel
theorem d_Mod_direction_46 : decode b_Mod_direction 46 = .ok (.iload_n 0, 1) := by decide +kernel
theorem d_Mod_direction_47 : decode b_Mod_direction 47 = .ok (.bipush 48, 2) := by decide +kernel
theorem d_Mod_direction_49 : decode b_Mod_direction 49 = .ok (.bipush 57, 2) := by decide +kernel
theorem d_Mod_direction_51 : decode b_Mod_direction 51 = .ok (.invokestatic 41, 3) := by decide +kernel
theorem d_Mod_direction_54 : decode b_Mod_direction 54 = .ok (.ifCond .ne 16, 3) := by decide +kernel
theorem d_Mod_direction_57 : decode b_Mod_direction 57 = .ok (.iload_n 0, 1) := by decide +kernel
theorem d_Mod_direction_58 : decode b_Mod_direction 58 = .ok (.sipush 1776, 3) := by decide +kernel
theorem d_Mod_direction_61 : decode b_Mod_direction 61 = .ok (.sipush 1785, 3) := by decide +kernel
theorem d_Mod_direction_64 : decode b_Mod_direction 64 = .ok (.invokestatic 41, 3) := by decide +kernel
theorem d_Mod_direction_67 : decode b_Mod_direction 67 = .ok (.ifCond .eq 5, 3) := by decide +kernel
theorem d_Mod_direction_70 : decode b_Mod_direction 70 = .ok (.iconst 4, 1) := by decide +kernel
theorem d_Mod_direction_71 : decode b_Mod_direction 71 = .ok (.ireturn, 1) := by decide +kernel
theorem d_Mod_direction_72 : decode b_Mod_direction 72 = .ok (.iload_n 0, 1) := by decide +kernel
theorem d_Mod_direction_73 : decode b_Mod_direction 73 = .ok (.bipush 45, 2) := by decide +kernel
theorem d_Mod_direction_75 : decode b_Mod_direction 75 = .ok (.if_icmp .ne 5, 3) := by decide +kernel
theorem d_Mod_direction_78 : decode b_Mod_direction 78 = .ok (.iconst 5, 1) := by decide +kernel
theorem d_Mod_direction_79 : decode b_Mod_direction 79 = .ok (.ireturn, 1) := by decide +kernel
theorem d_Mod_direction_80 : decode b_Mod_direction 80 = .ok (.iload_n 0, 1) := by decide +kernel
theorem d_Mod_direction_81 : decode b_Mod_direction 81 = .ok (.invokestatic 45, 3) := by decide +kernel
theorem d_Mod_direction_84 : decode b_Mod_direction 84 = .ok (.ifCond .le 6, 3) := by decide +kernel
theorem d_Mod_direction_87 : decode b_Mod_direction 87 = .ok (.bipush 6, 2) := by decide +kernel
theorem d_Mod_direction_89 : decode b_Mod_direction 89 = .ok (.ireturn, 1) := by decide +kernel
theorem d_Mod_direction_90 : decode b_Mod_direction 90 = .ok (.iload_n 0, 1) := by decide +kernel
theorem d_Mod_direction_91 : decode b_Mod_direction 91 = .ok (.sipush 8204, 3) := by decide +kernel
theorem d_Mod_direction_94 : decode b_Mod_direction 94 = .ok (.if_icmp .eq 10, 3) := by decide +kernel
theorem d_Mod_direction_97 : decode b_Mod_direction 97 = .ok (.iload_n 0, 1) := by decide +kernel
theorem d_Mod_direction_98 : decode b_Mod_direction 98 = .ok (.sipush 8205, 3) := by decide +kernel
theorem d_Mod_direction_101 : decode b_Mod_direction 101 = .ok (.if_icmp .ne 6, 3) := by decide +kernel
theorem d_Mod_direction_104 : decode b_Mod_direction 104 = .ok (.bipush 7, 2) := by decide +kernel
theorem d_Mod_direction_106 : decode b_Mod_direction 106 = .ok (.ireturn, 1) := by decide +kernel
theorem d_Mod_direction_107 : decode b_Mod_direction 107 = .ok (.iload_n 0, 1) := by decide +kernel
theorem d_Mod_direction_108 : decode b_Mod_direction 108 = .ok (.iconst 0, 1) := by decide +kernel
theorem d_Mod_direction_109 : decode b_Mod_direction 109 = .ok (.bipush 127, 2) := by decide +kernel
theorem d_Mod_direction_111 : decode b_Mod_direction 111 = .ok (.invokestatic 41, 3) := by decide +kernel
theorem d_Mod_direction_114 : decode b_Mod_direction 114 = .ok (.ifCond .eq 30, 3) := by decide +kernel
theorem d_Mod_direction_117 : decode b_Mod_direction 117 = .ok (.iload_n 0, 1) := by decide +kernel
theorem d_Mod_direction_118 : decode b_Mod_direction 118 = .ok (.bipush 65, 2) := by decide +kernel
theorem d_Mod_direction_120 : decode b_Mod_direction 120 = .ok (.bipush 90, 2) := by decide +kernel
theorem d_Mod_direction_122 : decode b_Mod_direction 122 = .ok (.invokestatic 41, 3) := by decide +kernel
theorem d_Mod_direction_125 : decode b_Mod_direction 125 = .ok (.ifCond .ne 19, 3) := by decide +kernel
theorem d_Mod_direction_128 : decode b_Mod_direction 128 = .ok (.iload_n 0, 1) := by decide +kernel
theorem d_Mod_direction_129 : decode b_Mod_direction 129 = .ok (.bipush 97, 2) := by decide +kernel
theorem d_Mod_direction_131 : decode b_Mod_direction 131 = .ok (.bipush 122, 2) := by decide +kernel
theorem d_Mod_direction_133 : decode b_Mod_direction 133 = .ok (.invokestatic 41, 3) := by decide +kernel
theorem d_Mod_direction_136 : decode b_Mod_direction 136 = .ok (.ifCond .ne 8, 3) := by decide +kernel
theorem d_Mod_direction_139 : decode b_Mod_direction 139 = .ok (.bipush 8, 2) := by decide +kernel
theorem d_Mod_direction_141 : decode b_Mod_direction 141 = .ok (.goto 5, 3) := by decide +kernel
theorem d_Mod_direction_144 : decode b_Mod_direction 144 = .ok (.bipush 9, 2) := by decide +kernel
theorem d_Mod_direction_146 : decode b_Mod_direction 146 = .ok (.ireturn, 1) := by decide +kernel
theorem d_Mod_pair_0 : decode b_Mod_pair 0 = .ok (.iload_n 0, 1) := by decide +kernel
theorem d_Mod_pair_1 : decode b_Mod_pair 1 = .ok (.bipush 97, 2) := by decide +kernel
theorem d_Mod_pair_3 : decode b_Mod_pair 3 = .ok (.if_icmp .ne 7, 3) := by decide +kernel
theorem d_Mod_pair_6 : decode b_Mod_pair 6 = .ok (.iconst 0, 1) := by decide +kernel
theorem d_Mod_pair_7 : decode b_Mod_pair 7 = .ok (.goto 54, 3) := by decide +kernel
theorem d_Mod_pair_10 : decode b_Mod_pair 10 = .ok (.iload_n 0, 1) := by decide +kernel
theorem d_Mod_pair_11 : decode b_Mod_pair 11 = .ok (.bipush 101, 2) := by decide +kernel
theorem d_Mod_pair_13 : decode b_Mod_pair 13 = .ok (.if_icmp .ne 7, 3) := by decide +kernel
theorem d_Mod_pair_16 : decode b_Mod_pair 16 = .ok (.iconst 1, 1) := by decide +kernel
theorem d_Mod_pair_17 : decode b_Mod_pair 17 = .ok (.goto 44, 3) := by decide +kernel
theorem d_Mod_pair_20 : decode b_Mod_pair 20 = .ok (.iload_n 0, 1) := by decide +kernel
theorem d_Mod_pair_21 : decode b_Mod_pair 21 = .ok (.bipush 105, 2) := by decide +kernel
theorem d_Mod_pair_23 : decode b_Mod_pair 23 = .ok (.if_icmp .ne 7, 3) := by decide +kernel
theorem d_Mod_pair_26 : decode b_Mod_pair 26 = .ok (.iconst 2, 1) := by decide +kernel
theorem d_Mod_pair_27 : decode b_Mod_pair 27 = .ok (.goto 34, 3) := by decide +kernel
theorem d_Mod_pair_30 : decode b_Mod_pair 30 = .ok (.iload_n 0, 1) := by decide +kernel
theorem d_Mod_pair_31 : decode b_Mod_pair 31 = .ok (.bipush 111, 2) := by decide +kernel
theorem d_Mod_pair_33 : decode b_Mod_pair 33 = .ok (.if_icmp .ne 7, 3) := by decide +kernel
theorem d_Mod_pair_36 : decode b_Mod_pair 36 = .ok (.iconst 3, 1) := by decide +kernel
theorem d_Mod_pair_37 : decode b_Mod_pair 37 = .ok (.goto 24, 3) := by decide +kernel
theorem d_Mod_pair_40 : decode b_Mod_pair 40 = .ok (.iload_n 0, 1) := by decide +kernel
theorem d_Mod_pair_41 : decode b_Mod_pair 41 = .ok (.bipush 117, 2) := by decide +kernel
theorem d_Mod_pair_43 : decode b_Mod_pair 43 = .ok (.if_icmp .ne 7, 3) := by decide +kernel
theorem d_Mod_pair_46 : decode b_Mod_pair 46 = .ok (.iconst 4, 1) := by decide +kernel
theorem d_Mod_pair_47 : decode b_Mod_pair 47 = .ok (.goto 14, 3) := by decide +kernel
theorem d_Mod_pair_50 : decode b_Mod_pair 50 = .ok (.iload_n 0, 1) := by decide +kernel
theorem d_Mod_pair_51 : decode b_Mod_pair 51 = .ok (.bipush 121, 2) := by decide +kernel
theorem d_Mod_pair_53 : decode b_Mod_pair 53 = .ok (.if_icmp .ne 7, 3) := by decide +kernel
theorem d_Mod_pair_56 : decode b_Mod_pair 56 = .ok (.iconst 5, 1) := by decide +kernel
theorem d_Mod_pair_57 : decode b_Mod_pair 57 = .ok (.goto 4, 3) := by decide +kernel
theorem d_Mod_pair_60 : decode b_Mod_pair 60 = .ok (.iconst (-1), 1) := by decide +kernel
theorem d_Mod_pair_61 : decode b_Mod_pair 61 = .ok (.istore_n 2, 1) := by decide +kernel
theorem d_Mod_pair_62 : decode b_Mod_pair 62 = .ok (.iload_n 1, 1) := by decide +kernel
theorem d_Mod_pair_63 : decode b_Mod_pair 63 = .ok (.sipush 807, 3) := by decide +kernel
theorem d_Mod_pair_66 : decode b_Mod_pair 66 = .ok (.if_icmp .ne 17, 3) := by decide +kernel
theorem d_Mod_pair_69 : decode b_Mod_pair 69 = .ok (.iload_n 0, 1) := by decide +kernel
theorem d_Mod_pair_70 : decode b_Mod_pair 70 = .ok (.bipush 99, 2) := by decide +kernel
theorem d_Mod_pair_72 : decode b_Mod_pair 72 = .ok (.if_icmp .ne 9, 3) := by decide +kernel
theorem d_Mod_pair_75 : decode b_Mod_pair 75 = .ok (.sipush 231, 3) := by decide +kernel
theorem d_Mod_pair_78 : decode b_Mod_pair 78 = .ok (.goto 4, 3) := by decide +kernel
theorem d_Mod_pair_81 : decode b_Mod_pair 81 = .ok (.iconst 0, 1) := by decide +kernel
theorem d_Mod_pair_82 : decode b_Mod_pair 82 = .ok (.ireturn, 1) := by decide +kernel
theorem d_Mod_pair_83 : decode b_Mod_pair 83 = .ok (.iload_n 2, 1) := by decide +kernel
theorem d_Mod_pair_84 : decode b_Mod_pair 84 = .ok (.ifCond .lt 24, 3) := by decide +kernel
theorem d_Mod_pair_87 : decode b_Mod_pair 87 = .ok (.iload_n 1, 1) := by decide +kernel
theorem d_Mod_pair_88 : decode b_Mod_pair 88 = .ok (.sipush 768, 3) := by decide +kernel
theorem d_Mod_pair_91 : decode b_Mod_pair 91 = .ok (.if_icmp .eq 19, 3) := by decide +kernel
theorem d_Mod_pair_94 : decode b_Mod_pair 94 = .ok (.iload_n 1, 1) := by decide +kernel
theorem d_Mod_pair_95 : decode b_Mod_pair 95 = .ok (.sipush 769, 3) := by decide +kernel
theorem d_Mod_pair_98 : decode b_Mod_pair 98 = .ok (.if_icmp .eq 12, 3) := by decide +kernel
theorem d_Mod_pair_101 : decode b_Mod_pair 101 = .ok (.iload_n 1, 1) := by decide +kernel
theorem d_Mod_pair_102 : decode b_Mod_pair 102 = .ok (.sipush 776, 3) := by decide +kernel
theorem d_Mod_pair_105 : decode b_Mod_pair 105 = .ok (.if_icmp .eq 5, 3) := by decide +kernel
theorem d_Mod_pair_108 : decode b_Mod_pair 108 = .ok (.iconst 0, 1) := by decide +kernel
theorem d_Mod_pair_109 : decode b_Mod_pair 109 = .ok (.ireturn, 1) := by decide +kernel
theorem d_Mod_pair_110 : decode b_Mod_pair 110 = .ok (.iload_n 2, 1) := by decide +kernel
theorem d_Mod_pair_111 : decode b_Mod_pair 111 = .ok (.ifCond .ne 9, 3) := by decide +kernel
theorem d_Mod_pair_114 : decode b_Mod_pair 114 = .ok (.sipush 224, 3) := by decide +kernel
theorem d_Mod_pair_117 : decode b_Mod_pair 117 = .ok (.goto 50, 3) := by decide +kernel
theorem d_Mod_pair_120 : decode b_Mod_pair 120 = .ok (.iload_n 2, 1) := by decide +kernel
theorem d_Mod_pair_121 : decode b_Mod_pair 121 = .ok (.iconst 1, 1) := by decide +kernel
theorem d_Mod_pair_122 : decode b_Mod_pair 122 = .ok (.if_icmp .ne 9, 3) := by decide +kernel
theorem d_Mod_pair_125 : decode b_Mod_pair 125 = .ok (.sipush 232, 3) := by decide +kernel
theorem d_Mod_pair_128 : decode b_Mod_pair 128 = .ok (.goto 39, 3) := by decide +kernel
theorem d_Mod_pair_131 : decode b_Mod_pair 131 = .ok (.iload_n 2, 1) := by decide +kernel
theorem d_Mod_pair_132 : decode b_Mod_pair 132 = .ok (.iconst 2, 1) := by decide +kernel
theorem d_Mod_pair_133 : decode b_Mod_pair 133 = .ok (.if_icmp .ne 9, 3) := by decide +kernel
theorem d_Mod_pair_136 : decode b_Mod_pair 136 = .ok (.sipush 236, 3) := by decide +kernel
theorem d_Mod_pair_139 : decode b_Mod_pair 139 = .ok (.goto 28, 3) := by decide +kernel
theorem d_Mod_pair_142 : decode b_Mod_pair 142 = .ok (.iload_n 2, 1) := by decide +kernel
theorem d_Mod_pair_143 : decode b_Mod_pair 143 = .ok (.iconst 3, 1) := by decide +kernel
theorem d_Mod_pair_144 : decode b_Mod_pair 144 = .ok (.if_icmp .ne 9, 3) := by decide +kernel
theorem d_Mod_pair_147 : decode b_Mod_pair 147 = .ok (.sipush 242, 3) := by decide +kernel
theorem d_Mod_pair_150 : decode b_Mod_pair 150 = .ok (.goto 17, 3) := by decide +kernel
theorem d_Mod_pair_153 : decode b_Mod_pair 153 = .ok (.iload_n 2, 1) := by decide +kernel
theorem d_Mod_pair_154 : decode b_Mod_pair 154 = .ok (.iconst 4, 1) := by decide +kernel
theorem d_Mod_pair_155 : decode b_Mod_pair 155 = .ok (.if_icmp .ne 9, 3) := by decide +kernel
theorem d_Mod_pair_158 : decode b_Mod_pair 158 = .ok (.sipush 249, 3) := by decide +kernel
theorem d_Mod_pair_161 : decode b_Mod_pair 161 = .ok (.goto 6, 3) := by decide +kernel
theorem d_Mod_pair_164 : decode b_Mod_pair 164 = .ok (.sipush 252, 3) := by decide +kernel
theorem d_Mod_pair_167 : decode b_Mod_pair 167 = .ok (.istore_n 3, 1) := by decide +kernel
theorem d_Mod_pair_168 : decode b_Mod_pair 168 = .ok (.iload_n 1, 1) := by decide +kernel
theorem d_Mod_pair_169 : decode b_Mod_pair 169 = .ok (.sipush 768, 3) := by decide +kernel
theorem d_Mod_pair_172 : decode b_Mod_pair 172 = .ok (.if_icmp .ne 14, 3) := by decide +kernel
theorem d_Mod_pair_175 : decode b_Mod_pair 175 = .ok (.iload_n 2, 1) := by decide +kernel
theorem d_Mod_pair_176 : decode b_Mod_pair 176 = .ok (.iconst 5, 1) := by decide +kernel
theorem d_Mod_pair_177 : decode b_Mod_pair 177 = .ok (.if_icmp .ne 7, 3) := by decide +kernel
theorem d_Mod_pair_180 : decode b_Mod_pair 180 = .ok (.iconst 0, 1) := by decide +kernel
theorem d_Mod_pair_181 : decode b_Mod_pair 181 = .ok (.goto 4, 3) := by decide +kernel
theorem d_Mod_pair_184 : decode b_Mod_pair 184 = .ok (.iload_n 3, 1) := by decide +kernel
theorem d_Mod_pair_185 : decode b_Mod_pair 185 = .ok (.ireturn, 1) := by decide +kernel
theorem d_Mod_pair_186 : decode b_Mod_pair 186 = .ok (.iload_n 1, 1) := by decide +kernel
theorem d_Mod_pair_187 : decode b_Mod_pair 187 = .ok (.sipush 769, 3) := by decide +kernel
theorem d_Mod_pair_190 : decode b_Mod_pair 190 = .ok (.if_icmp .ne 7, 3) := by decide +kernel
theorem d_Mod_pair_193 : decode b_Mod_pair 193 = .ok (.iload_n 3, 1) := by decide +kernel
theorem d_Mod_pair_194 : decode b_Mod_pair 194 = .ok (.iconst 1, 1) := by decide +kernel
theorem d_Mod_pair_195 : decode b_Mod_pair 195 = .ok (.iadd, 1) := by decide +kernel
theorem d_Mod_pair_196 : decode b_Mod_pair 196 = .ok (.ireturn, 1) := by decide +kernel
theorem d_Mod_pair_197 : decode b_Mod_pair 197 = .ok (.iload_n 2, 1) := by decide +kernel
theorem d_Mod_pair_198 : decode b_Mod_pair 198 = .ok (.ifCond .ne 9, 3) := by decide +kernel
theorem d_Mod_pair_201 : decode b_Mod_pair 201 = .ok (.sipush 228, 3) := by decide +kernel
theorem d_Mod_pair_204 : decode b_Mod_pair 204 = .ok (.goto 50, 3) := by decide +kernel
theorem d_Mod_pair_207 : decode b_Mod_pair 207 = .ok (.iload_n 2, 1) := by decide +kernel
theorem d_Mod_pair_208 : decode b_Mod_pair 208 = .ok (.iconst 1, 1) := by decide +kernel
theorem d_Mod_pair_209 : decode b_Mod_pair 209 = .ok (.if_icmp .ne 9, 3) := by decide +kernel
theorem d_Mod_pair_212 : decode b_Mod_pair 212 = .ok (.sipush 235, 3) := by decide +kernel
theorem d_Mod_pair_215 : decode b_Mod_pair 215 = .ok (.goto 39, 3) := by decide +kernel
theorem d_Mod_pair_218 : decode b_Mod_pair 218 = .ok (.iload_n 2, 1) := by decide +kernel
theorem d_Mod_pair_219 : decode b_Mod_pair 219 = .ok (.iconst 2, 1) := by decide +kernel
theorem d_Mod_pair_220 : decode b_Mod_pair 220 = .ok (.if_icmp .ne 9, 3) := by decide +kernel
theorem d_Mod_pair_223 : decode b_Mod_pair 223 = .ok (.sipush 239, 3) := by decide +kernel
theorem d_Mod_pair_226 : decode b_Mod_pair 226 = .ok (.goto 28, 3) := by decide +kernel
theorem d_Mod_pair_229 : decode b_Mod_pair 229 = .ok (.iload_n 2, 1) := by decide +kernel
theorem d_Mod_pair_230 : decode b_Mod_pair 230 = .ok (.iconst 3, 1) := by decide +kernel
theorem d_Mod_pair_231 : decode b_Mod_pair 231 = .ok (.if_icmp .ne 9, 3) := by decide +kernel
theorem d_Mod_pair_234 : decode b_Mod_pair 234 = .ok (.sipush 246, 3) := by decide +kernel
theorem d_Mod_pair_237 : decode b_Mod_pair 237 = .ok (.goto 17, 3) := by decide +kernel
theorem d_Mod_pair_240 : decode b_Mod_pair 240 = .ok (.iload_n 2, 1) := by decide +kernel
theorem d_Mod_pair_241 : decode b_Mod_pair 241 = .ok (.iconst 4, 1) := by decide +kernel
theorem d_Mod_pair_242 : decode b_Mod_pair 242 = .ok (.if_icmp .ne 9, 3) := by decide +kernel
theorem d_Mod_pair_245 : decode b_Mod_pair 245 = .ok (.sipush 252, 3) := by decide +kernel
theorem d_Mod_pair_248 : decode b_Mod_pair 248 = .ok (.goto 6, 3) := by decide +kernel
theorem d_Mod_pair_251 : decode b_Mod_pair 251 = .ok (.sipush 255, 3) := by decide +kernel
theorem d_Mod_pair_254 : decode b_Mod_pair 254 = .ok (.ireturn, 1) := by decide +kernel
theorem d_Mod_letterOf_0 : decode b_Mod_letterOf 0 = .ok (.iconst 0, 1) := by decide +kernel
theorem d_Mod_letterOf_1 : decode b_Mod_letterOf 1 = .ok (.istore_n 1, 1) := by decide +kernel
theorem d_Mod_letterOf_2 : decode b_Mod_letterOf 2 = .ok (.bipush 97, 2) := by decide +kernel
theorem d_Mod_letterOf_4 : decode b_Mod_letterOf 4 = .ok (.istore_n 2, 1) := by decide +kernel
theorem d_Mod_letterOf_5 : decode b_Mod_letterOf 5 = .ok (.iload_n 2, 1) := by decide +kernel
theorem d_Mod_letterOf_6 : decode b_Mod_letterOf 6 = .ok (.bipush 121, 2) := by decide +kernel
theorem d_Mod_letterOf_8 : decode b_Mod_letterOf 8 = .ok (.if_icmp .gt 73, 3) := by decide +kernel
theorem d_Mod_letterOf_11 : decode b_Mod_letterOf 11 = .ok (.iload_n 2, 1) := by decide +kernel
theorem d_Mod_letterOf_12 : decode b_Mod_letterOf 12 = .ok (.sipush 768, 3) := by decide +kernel
theorem d_Mod_letterOf_15 : decode b_Mod_letterOf 15 = .ok (.invokestatic 57, 3) := by decide +kernel
theorem d_Mod_letterOf_18 : decode b_Mod_letterOf 18 = .ok (.iload_n 0, 1) := by decide +kernel
theorem d_Mod_letterOf_19 : decode b_Mod_letterOf 19 = .ok (.if_icmp .eq 36, 3) := by decide +kernel
theorem d_Mod_letterOf_22 : decode b_Mod_letterOf 22 = .ok (.iload_n 2, 1) := by decide +kernel
theorem d_Mod_letterOf_23 : decode b_Mod_letterOf 23 = .ok (.sipush 769, 3) := by decide +kernel
theorem d_Mod_letterOf_26 : decode b_Mod_letterOf 26 = .ok (.invokestatic 57, 3) := by decide +kernel
theorem d_Mod_letterOf_29 : decode b_Mod_letterOf 29 = .ok (.iload_n 0, 1) := by decide +kernel
theorem d_Mod_letterOf_30 : decode b_Mod_letterOf 30 = .ok (.if_icmp .eq 25, 3) := by decide +kernel
theorem d_Mod_letterOf_33 : decode b_Mod_letterOf 33 = .ok (.iload_n 2, 1) := by decide +kernel
theorem d_Mod_letterOf_34 : decode b_Mod_letterOf 34 = .ok (.sipush 776, 3) := by decide +kernel
theorem d_Mod_letterOf_37 : decode b_Mod_letterOf 37 = .ok (.invokestatic 57, 3) := by decide +kernel
theorem d_Mod_letterOf_40 : decode b_Mod_letterOf 40 = .ok (.iload_n 0, 1) := by decide +kernel
theorem d_Mod_letterOf_41 : decode b_Mod_letterOf 41 = .ok (.if_icmp .eq 14, 3) := by decide +kernel
theorem d_Mod_letterOf_44 : decode b_Mod_letterOf 44 = .ok (.iload_n 2, 1) := by decide +kernel
theorem d_Mod_letterOf_45 : decode b_Mod_letterOf 45 = .ok (.sipush 807, 3) := by decide +kernel
theorem d_Mod_letterOf_48 : decode b_Mod_letterOf 48 = .ok (.invokestatic 57, 3) := by decide +kernel
theorem d_Mod_letterOf_51 : decode b_Mod_letterOf 51 = .ok (.iload_n 0, 1) := by decide +kernel
theorem d_Mod_letterOf_52 : decode b_Mod_letterOf 52 = .ok (.if_icmp .ne 7, 3) := by decide +kernel
theorem d_Mod_letterOf_55 : decode b_Mod_letterOf 55 = .ok (.iconst 1, 1) := by decide +kernel
theorem d_Mod_letterOf_56 : decode b_Mod_letterOf 56 = .ok (.goto 4, 3) := by decide +kernel
theorem d_Mod_letterOf_59 : decode b_Mod_letterOf 59 = .ok (.iconst 0, 1) := by decide +kernel
theorem d_Mod_letterOf_60 : decode b_Mod_letterOf 60 = .ok (.istore_n 3, 1) := by decide +kernel
theorem d_Mod_letterOf_61 : decode b_Mod_letterOf 61 = .ok (.iload_n 0, 1) := by decide +kernel
theorem d_Mod_letterOf_62 : decode b_Mod_letterOf 62 = .ok (.ifCond .le 11, 3) := by decide +kernel
theorem d_Mod_letterOf_65 : decode b_Mod_letterOf 65 = .ok (.iload_n 3, 1) := by decide +kernel
theorem d_Mod_letterOf_66 : decode b_Mod_letterOf 66 = .ok (.ifCond .eq 7, 3) := by decide +kernel
theorem d_Mod_letterOf_69 : decode b_Mod_letterOf 69 = .ok (.iload_n 2, 1) := by decide +kernel
theorem d_Mod_letterOf_70 : decode b_Mod_letterOf 70 = .ok (.goto 4, 3) := by decide +kernel
theorem d_Mod_letterOf_73 : decode b_Mod_letterOf 73 = .ok (.iload_n 1, 1) := by decide +kernel
theorem d_Mod_letterOf_74 : decode b_Mod_letterOf 74 = .ok (.istore_n 1, 1) := by decide +kernel
theorem d_Mod_letterOf_75 : decode b_Mod_letterOf 75 = .ok (.iinc 2 1, 3) := by decide +kernel
theorem d_Mod_letterOf_78 : decode b_Mod_letterOf 78 = .ok (.goto (-73), 3) := by decide +kernel
theorem d_Mod_letterOf_81 : decode b_Mod_letterOf 81 = .ok (.iload_n 1, 1) := by decide +kernel
theorem d_Mod_letterOf_82 : decode b_Mod_letterOf 82 = .ok (.ireturn, 1) := by decide +kernel
theorem d_Mod_markOf_0 : decode b_Mod_markOf 0 = .ok (.iload_n 0, 1) := by decide +kernel
theorem d_Mod_markOf_1 : decode b_Mod_markOf 1 = .ok (.invokestatic 61, 3) := by decide +kernel
theorem d_Mod_markOf_4 : decode b_Mod_markOf 4 = .ok (.istore_n 1, 1) := by decide +kernel
theorem d_Mod_markOf_5 : decode b_Mod_markOf 5 = .ok (.iload_n 1, 1) := by decide +kernel
theorem d_Mod_markOf_6 : decode b_Mod_markOf 6 = .ok (.sipush 768, 3) := by decide +kernel
theorem d_Mod_markOf_9 : decode b_Mod_markOf 9 = .ok (.invokestatic 57, 3) := by decide +kernel
theorem d_Mod_markOf_12 : decode b_Mod_markOf 12 = .ok (.iload_n 0, 1) := by decide +kernel
theorem d_Mod_markOf_13 : decode b_Mod_markOf 13 = .ok (.if_icmp .ne 9, 3) := by decide +kernel
theorem d_Mod_markOf_16 : decode b_Mod_markOf 16 = .ok (.sipush 768, 3) := by decide +kernel
theorem d_Mod_markOf_19 : decode b_Mod_markOf 19 = .ok (.goto 40, 3) := by decide +kernel
theorem d_Mod_markOf_22 : decode b_Mod_markOf 22 = .ok (.iload_n 1, 1) := by decide +kernel
theorem d_Mod_markOf_23 : decode b_Mod_markOf 23 = .ok (.sipush 769, 3) := by decide +kernel
theorem d_Mod_markOf_26 : decode b_Mod_markOf 26 = .ok (.invokestatic 57, 3) := by decide +kernel
theorem d_Mod_markOf_29 : decode b_Mod_markOf 29 = .ok (.iload_n 0, 1) := by decide +kernel
theorem d_Mod_markOf_30 : decode b_Mod_markOf 30 = .ok (.if_icmp .ne 9, 3) := by decide +kernel
theorem d_Mod_markOf_33 : decode b_Mod_markOf 33 = .ok (.sipush 769, 3) := by decide +kernel
theorem d_Mod_markOf_36 : decode b_Mod_markOf 36 = .ok (.goto 23, 3) := by decide +kernel
theorem d_Mod_markOf_39 : decode b_Mod_markOf 39 = .ok (.iload_n 1, 1) := by decide +kernel
theorem d_Mod_markOf_40 : decode b_Mod_markOf 40 = .ok (.sipush 776, 3) := by decide +kernel
theorem d_Mod_markOf_43 : decode b_Mod_markOf 43 = .ok (.invokestatic 57, 3) := by decide +kernel
theorem d_Mod_markOf_46 : decode b_Mod_markOf 46 = .ok (.iload_n 0, 1) := by decide +kernel
theorem d_Mod_markOf_47 : decode b_Mod_markOf 47 = .ok (.if_icmp .ne 9, 3) := by decide +kernel
theorem d_Mod_markOf_50 : decode b_Mod_markOf 50 = .ok (.sipush 776, 3) := by decide +kernel
theorem d_Mod_markOf_53 : decode b_Mod_markOf 53 = .ok (.goto 6, 3) := by decide +kernel
theorem d_Mod_markOf_56 : decode b_Mod_markOf 56 = .ok (.sipush 807, 3) := by decide +kernel
theorem d_Mod_markOf_59 : decode b_Mod_markOf 59 = .ok (.ireturn, 1) := by decide +kernel
theorem d_Mod_takeApart_0 : decode b_Mod_takeApart 0 = .ok (.iconst 0, 1) := by decide +kernel
theorem d_Mod_takeApart_1 : decode b_Mod_takeApart 1 = .ok (.istore_n 1, 1) := by decide +kernel
theorem d_Mod_takeApart_2 : decode b_Mod_takeApart 2 = .ok (.iconst 0, 1) := by decide +kernel
theorem d_Mod_takeApart_3 : decode b_Mod_takeApart 3 = .ok (.istore_n 2, 1) := by decide +kernel
theorem d_Mod_takeApart_4 : decode b_Mod_takeApart 4 = .ok (.iload_n 2, 1) := by decide +kernel
theorem d_Mod_takeApart_5 : decode b_Mod_takeApart 5 = .ok (.aload_n 0, 1) := by decide +kernel
theorem d_Mod_takeApart_6 : decode b_Mod_takeApart 6 = .ok (.getfield 64, 3) := by decide +kernel
theorem d_Mod_takeApart_9 : decode b_Mod_takeApart 9 = .ok (.if_icmp .ge 64, 3) := by decide +kernel
theorem d_Mod_takeApart_12 : decode b_Mod_takeApart 12 = .ok (.aload_n 0, 1) := by decide +kernel
theorem d_Mod_takeApart_13 : decode b_Mod_takeApart 13 = .ok (.getfield 16, 3) := by decide +kernel
theorem d_Mod_takeApart_16 : decode b_Mod_takeApart 16 = .ok (.iload_n 2, 1) := by decide +kernel
theorem d_Mod_takeApart_17 : decode b_Mod_takeApart 17 = .ok (.iaload, 1) := by decide +kernel
theorem d_Mod_takeApart_18 : decode b_Mod_takeApart 18 = .ok (.invokestatic 61, 3) := by decide +kernel
theorem d_Mod_takeApart_21 : decode b_Mod_takeApart 21 = .ok (.istore_n 3, 1) := by decide +kernel
theorem d_Mod_takeApart_22 : decode b_Mod_takeApart 22 = .ok (.aload_n 0, 1) := by decide +kernel
theorem d_Mod_takeApart_23 : decode b_Mod_takeApart 23 = .ok (.getfield 19, 3) := by decide +kernel
theorem d_Mod_takeApart_26 : decode b_Mod_takeApart 26 = .ok (.iload_n 1, 1) := by decide +kernel
theorem d_Mod_takeApart_27 : decode b_Mod_takeApart 27 = .ok (.iload_n 3, 1) := by decide +kernel
theorem d_Mod_takeApart_28 : decode b_Mod_takeApart 28 = .ok (.ifCond .le 7, 3) := by decide +kernel
theorem d_Mod_takeApart_31 : decode b_Mod_takeApart 31 = .ok (.iload_n 3, 1) := by decide +kernel
theorem d_Mod_takeApart_32 : decode b_Mod_takeApart 32 = .ok (.goto 9, 3) := by decide +kernel
theorem d_Mod_takeApart_35 : decode b_Mod_takeApart 35 = .ok (.aload_n 0, 1) := by decide +kernel
theorem d_Mod_takeApart_36 : decode b_Mod_takeApart 36 = .ok (.getfield 16, 3) := by decide +kernel
theorem d_Mod_takeApart_39 : decode b_Mod_takeApart 39 = .ok (.iload_n 2, 1) := by decide +kernel
theorem d_Mod_takeApart_40 : decode b_Mod_takeApart 40 = .ok (.iaload, 1) := by decide +kernel
theorem d_Mod_takeApart_41 : decode b_Mod_takeApart 41 = .ok (.iastore, 1) := by decide +kernel
theorem d_Mod_takeApart_42 : decode b_Mod_takeApart 42 = .ok (.iinc 1 1, 3) := by decide +kernel
theorem d_Mod_takeApart_45 : decode b_Mod_takeApart 45 = .ok (.iload_n 3, 1) := by decide +kernel
theorem d_Mod_takeApart_46 : decode b_Mod_takeApart 46 = .ok (.ifCond .le 21, 3) := by decide +kernel
theorem d_Mod_takeApart_49 : decode b_Mod_takeApart 49 = .ok (.aload_n 0, 1) := by decide +kernel
theorem d_Mod_takeApart_50 : decode b_Mod_takeApart 50 = .ok (.getfield 19, 3) := by decide +kernel
theorem d_Mod_takeApart_53 : decode b_Mod_takeApart 53 = .ok (.iload_n 1, 1) := by decide +kernel
theorem d_Mod_takeApart_54 : decode b_Mod_takeApart 54 = .ok (.aload_n 0, 1) := by decide +kernel
theorem d_Mod_takeApart_55 : decode b_Mod_takeApart 55 = .ok (.getfield 16, 3) := by decide +kernel
theorem d_Mod_takeApart_58 : decode b_Mod_takeApart 58 = .ok (.iload_n 2, 1) := by decide +kernel
theorem d_Mod_takeApart_59 : decode b_Mod_takeApart 59 = .ok (.iaload, 1) := by decide +kernel
theorem d_Mod_takeApart_60 : decode b_Mod_takeApart 60 = .ok (.invokestatic 68, 3) := by decide +kernel
theorem d_Mod_takeApart_63 : decode b_Mod_takeApart 63 = .ok (.iastore, 1) := by decide +kernel
theorem d_Mod_takeApart_64 : decode b_Mod_takeApart 64 = .ok (.iinc 1 1, 3) := by decide +kernel
theorem d_Mod_takeApart_67 : decode b_Mod_takeApart 67 = .ok (.iinc 2 1, 3) := by decide +kernel
theorem d_Mod_takeApart_70 : decode b_Mod_takeApart 70 = .ok (.goto (-66), 3) := by decide +kernel
theorem d_Mod_takeApart_73 : decode b_Mod_takeApart 73 = .ok (.iconst 0, 1) := by decide +kernel
theorem d_Mod_takeApart_74 : decode b_Mod_takeApart 74 = .ok (.istore_n 2, 1) := by decide +kernel
theorem d_Mod_takeApart_75 : decode b_Mod_takeApart 75 = .ok (.iload_n 2, 1) := by decide +kernel
theorem d_Mod_takeApart_76 : decode b_Mod_takeApart 76 = .ok (.iload_n 1, 1) := by decide +kernel
theorem d_Mod_takeApart_77 : decode b_Mod_takeApart 77 = .ok (.if_icmp .ge 80, 3) := by decide +kernel
theorem d_Mod_takeApart_80 : decode b_Mod_takeApart 80 = .ok (.aload_n 0, 1) := by decide +kernel
theorem d_Mod_takeApart_81 : decode b_Mod_takeApart 81 = .ok (.getfield 19, 3) := by decide +kernel
theorem d_Mod_takeApart_84 : decode b_Mod_takeApart 84 = .ok (.iload_n 2, 1) := by decide +kernel
theorem d_Mod_takeApart_85 : decode b_Mod_takeApart 85 = .ok (.iaload, 1) := by decide +kernel
theorem d_Mod_takeApart_86 : decode b_Mod_takeApart 86 = .ok (.istore_n 3, 1) := by decide +kernel
theorem d_Mod_takeApart_87 : decode b_Mod_takeApart 87 = .ok (.iload_n 2, 1) := by decide +kernel
theorem d_Mod_takeApart_88 : decode b_Mod_takeApart 88 = .ok (.istore 4, 2) := by decide +kernel
theorem d_Mod_takeApart_90 : decode b_Mod_takeApart 90 = .ok (.iload 4, 2) := by decide +kernel
theorem d_Mod_takeApart_92 : decode b_Mod_takeApart 92 = .ok (.ifCond .le 51, 3) := by decide +kernel
theorem d_Mod_takeApart_95 : decode b_Mod_takeApart 95 = .ok (.iload_n 3, 1) := by decide +kernel
theorem d_Mod_takeApart_96 : decode b_Mod_takeApart 96 = .ok (.invokestatic 45, 3) := by decide +kernel
theorem d_Mod_takeApart_99 : decode b_Mod_takeApart 99 = .ok (.ifCond .le 44, 3) := by decide +kernel
theorem d_Mod_takeApart_102 : decode b_Mod_takeApart 102 = .ok (.aload_n 0, 1) := by decide +kernel
theorem d_Mod_takeApart_103 : decode b_Mod_takeApart 103 = .ok (.getfield 19, 3) := by decide +kernel
theorem d_Mod_takeApart_106 : decode b_Mod_takeApart 106 = .ok (.iload 4, 2) := by decide +kernel
theorem d_Mod_takeApart_108 : decode b_Mod_takeApart 108 = .ok (.iconst 1, 1) := by decide +kernel
theorem d_Mod_takeApart_109 : decode b_Mod_takeApart 109 = .ok (.isub, 1) := by decide +kernel
theorem d_Mod_takeApart_110 : decode b_Mod_takeApart 110 = .ok (.iaload, 1) := by decide +kernel
theorem d_Mod_takeApart_111 : decode b_Mod_takeApart 111 = .ok (.invokestatic 45, 3) := by decide +kernel
theorem d_Mod_takeApart_114 : decode b_Mod_takeApart 114 = .ok (.iload_n 3, 1) := by decide +kernel
theorem d_Mod_takeApart_115 : decode b_Mod_takeApart 115 = .ok (.invokestatic 45, 3) := by decide +kernel
theorem d_Mod_takeApart_118 : decode b_Mod_takeApart 118 = .ok (.if_icmp .le 25, 3) := by decide +kernel
theorem d_Mod_takeApart_121 : decode b_Mod_takeApart 121 = .ok (.aload_n 0, 1) := by decide +kernel
theorem d_Mod_takeApart_122 : decode b_Mod_takeApart 122 = .ok (.getfield 19, 3) := by decide +kernel
theorem d_Mod_takeApart_125 : decode b_Mod_takeApart 125 = .ok (.iload 4, 2) := by decide +kernel
theorem d_Mod_takeApart_127 : decode b_Mod_takeApart 127 = .ok (.aload_n 0, 1) := by decide +kernel
theorem d_Mod_takeApart_128 : decode b_Mod_takeApart 128 = .ok (.getfield 19, 3) := by decide +kernel
theorem d_Mod_takeApart_131 : decode b_Mod_takeApart 131 = .ok (.iload 4, 2) := by decide +kernel
theorem d_Mod_takeApart_133 : decode b_Mod_takeApart 133 = .ok (.iconst 1, 1) := by decide +kernel
theorem d_Mod_takeApart_134 : decode b_Mod_takeApart 134 = .ok (.isub, 1) := by decide +kernel
theorem d_Mod_takeApart_135 : decode b_Mod_takeApart 135 = .ok (.iaload, 1) := by decide +kernel
theorem d_Mod_takeApart_136 : decode b_Mod_takeApart 136 = .ok (.iastore, 1) := by decide +kernel
theorem d_Mod_takeApart_137 : decode b_Mod_takeApart 137 = .ok (.iinc 4 ( -1), 3) := by decide +kernel
theorem d_Mod_takeApart_140 : decode b_Mod_takeApart 140 = .ok (.goto (-50), 3) := by decide +kernel
theorem d_Mod_takeApart_143 : decode b_Mod_takeApart 143 = .ok (.aload_n 0, 1) := by decide +kernel
theorem d_Mod_takeApart_144 : decode b_Mod_takeApart 144 = .ok (.getfield 19, 3) := by decide +kernel
theorem d_Mod_takeApart_147 : decode b_Mod_takeApart 147 = .ok (.iload 4, 2) := by decide +kernel
theorem d_Mod_takeApart_149 : decode b_Mod_takeApart 149 = .ok (.iload_n 3, 1) := by decide +kernel
theorem d_Mod_takeApart_150 : decode b_Mod_takeApart 150 = .ok (.iastore, 1) := by decide +kernel
theorem d_Mod_takeApart_151 : decode b_Mod_takeApart 151 = .ok (.iinc 2 1, 3) := by decide +kernel
theorem d_Mod_takeApart_154 : decode b_Mod_takeApart 154 = .ok (.goto (-79), 3) := by decide +kernel
theorem d_Mod_takeApart_157 : decode b_Mod_takeApart 157 = .ok (.aload_n 0, 1) := by decide +kernel
theorem d_Mod_takeApart_158 : decode b_Mod_takeApart 158 = .ok (.iload_n 1, 1) := by decide +kernel
theorem d_Mod_takeApart_159 : decode b_Mod_takeApart 159 = .ok (.putfield 64, 3) := by decide +kernel
theorem d_Mod_takeApart_162 : decode b_Mod_takeApart 162 = .ok (.return_, 1) := by decide +kernel
theorem d_Mod_composeRow_0 : decode b_Mod_composeRow 0 = .ok (.aload_n 0, 1) := by decide +kernel
theorem d_Mod_composeRow_1 : decode b_Mod_composeRow 1 = .ok (.invokevirtual 71, 3) := by decide +kernel
theorem d_Mod_composeRow_4 : decode b_Mod_composeRow 4 = .ok (.iconst 0, 1) := by decide +kernel
theorem d_Mod_composeRow_5 : decode b_Mod_composeRow 5 = .ok (.istore_n 1, 1) := by decide +kernel
theorem d_Mod_composeRow_6 : decode b_Mod_composeRow 6 = .ok (.iconst (-1), 1) := by decide +kernel
theorem d_Mod_composeRow_7 : decode b_Mod_composeRow 7 = .ok (.istore_n 2, 1) := by decide +kernel
theorem d_Mod_composeRow_8 : decode b_Mod_composeRow 8 = .ok (.iconst 0, 1) := by decide +kernel
theorem d_Mod_composeRow_9 : decode b_Mod_composeRow 9 = .ok (.istore_n 3, 1) := by decide +kernel
theorem d_Mod_composeRow_10 : decode b_Mod_composeRow 10 = .ok (.iload_n 3, 1) := by decide +kernel
theorem d_Mod_composeRow_11 : decode b_Mod_composeRow 11 = .ok (.aload_n 0, 1) := by decide +kernel
theorem d_Mod_composeRow_12 : decode b_Mod_composeRow 12 = .ok (.getfield 64, 3) := by decide +kernel
theorem d_Mod_composeRow_15 : decode b_Mod_composeRow 15 = .ok (.if_icmp .ge 146, 3) := by decide +kernel
theorem d_Mod_composeRow_18 : decode b_Mod_composeRow 18 = .ok (.aload_n 0, 1) := by decide +kernel
theorem d_Mod_composeRow_19 : decode b_Mod_composeRow 19 = .ok (.getfield 19, 3) := by decide +kernel
theorem d_Mod_composeRow_22 : decode b_Mod_composeRow 22 = .ok (.iload_n 3, 1) := by decide +kernel
theorem d_Mod_composeRow_23 : decode b_Mod_composeRow 23 = .ok (.iaload, 1) := by decide +kernel
theorem d_Mod_composeRow_24 : decode b_Mod_composeRow 24 = .ok (.istore 4, 2) := by decide +kernel
theorem d_Mod_composeRow_26 : decode b_Mod_composeRow 26 = .ok (.iload_n 2, 1) := by decide +kernel
theorem d_Mod_composeRow_27 : decode b_Mod_composeRow 27 = .ok (.ifCond .lt 15, 3) := by decide +kernel
theorem d_Mod_composeRow_30 : decode b_Mod_composeRow 30 = .ok (.iload 4, 2) := by decide +kernel
theorem d_Mod_composeRow_32 : decode b_Mod_composeRow 32 = .ok (.invokestatic 45, 3) := by decide +kernel
theorem d_Mod_composeRow_35 : decode b_Mod_composeRow 35 = .ok (.ifCond .le 7, 3) := by decide +kernel
theorem d_Mod_composeRow_38 : decode b_Mod_composeRow 38 = .ok (.iconst 1, 1) := by decide +kernel
theorem d_Mod_composeRow_39 : decode b_Mod_composeRow 39 = .ok (.goto 4, 3) := by decide +kernel
theorem d_Mod_composeRow_42 : decode b_Mod_composeRow 42 = .ok (.iconst 0, 1) := by decide +kernel
theorem d_Mod_composeRow_43 : decode b_Mod_composeRow 43 = .ok (.istore 5, 2) := by decide +kernel
theorem d_Mod_composeRow_45 : decode b_Mod_composeRow 45 = .ok (.iload_n 2, 1) := by decide +kernel
theorem d_Mod_composeRow_46 : decode b_Mod_composeRow 46 = .ok (.iconst 1, 1) := by decide +kernel
theorem d_Mod_composeRow_47 : decode b_Mod_composeRow 47 = .ok (.iadd, 1) := by decide +kernel
theorem d_Mod_composeRow_48 : decode b_Mod_composeRow 48 = .ok (.istore 6, 2) := by decide +kernel
theorem d_Mod_composeRow_50 : decode b_Mod_composeRow 50 = .ok (.iload 6, 2) := by decide +kernel
theorem d_Mod_composeRow_52 : decode b_Mod_composeRow 52 = .ok (.iload_n 1, 1) := by decide +kernel
theorem d_Mod_composeRow_53 : decode b_Mod_composeRow 53 = .ok (.if_icmp .ge 39, 3) := by decide +kernel
theorem d_Mod_composeRow_56 : decode b_Mod_composeRow 56 = .ok (.iload 5, 2) := by decide +kernel
theorem d_Mod_composeRow_58 : decode b_Mod_composeRow 58 = .ok (.ifCond .eq 25, 3) := by decide +kernel
theorem d_Mod_composeRow_61 : decode b_Mod_composeRow 61 = .ok (.aload_n 0, 1) := by decide +kernel
theorem d_Mod_composeRow_62 : decode b_Mod_composeRow 62 = .ok (.getfield 16, 3) := by decide +kernel
theorem d_Mod_composeRow_65 : decode b_Mod_composeRow 65 = .ok (.iload 6, 2) := by decide +kernel
theorem d_Mod_composeRow_67 : decode b_Mod_composeRow 67 = .ok (.iaload, 1) := by decide +kernel
theorem d_Mod_composeRow_68 : decode b_Mod_composeRow 68 = .ok (.invokestatic 45, 3) := by decide +kernel
theorem d_Mod_composeRow_71 : decode b_Mod_composeRow 71 = .ok (.iload 4, 2) := by decide +kernel
theorem d_Mod_composeRow_73 : decode b_Mod_composeRow 73 = .ok (.invokestatic 45, 3) := by decide +kernel
theorem d_Mod_composeRow_76 : decode b_Mod_composeRow 76 = .ok (.if_icmp .ge 7, 3) := by decide +kernel
theorem d_Mod_composeRow_79 : decode b_Mod_composeRow 79 = .ok (.iconst 1, 1) := by decide +kernel
theorem d_Mod_composeRow_80 : decode b_Mod_composeRow 80 = .ok (.goto 4, 3) := by decide +kernel
theorem d_Mod_composeRow_83 : decode b_Mod_composeRow 83 = .ok (.iconst 0, 1) := by decide +kernel
theorem d_Mod_composeRow_84 : decode b_Mod_composeRow 84 = .ok (.istore 5, 2) := by decide +kernel
theorem d_Mod_composeRow_86 : decode b_Mod_composeRow 86 = .ok (.iinc 6 1, 3) := by decide +kernel
theorem d_Mod_composeRow_89 : decode b_Mod_composeRow 89 = .ok (.goto (-39), 3) := by decide +kernel
theorem d_Mod_composeRow_92 : decode b_Mod_composeRow 92 = .ok (.iload 5, 2) := by decide +kernel
theorem d_Mod_composeRow_94 : decode b_Mod_composeRow 94 = .ok (.ifCond .eq 17, 3) := by decide +kernel
theorem d_Mod_composeRow_97 : decode b_Mod_composeRow 97 = .ok (.aload_n 0, 1) := by decide +kernel
theorem d_Mod_composeRow_98 : decode b_Mod_composeRow 98 = .ok (.getfield 16, 3) := by decide +kernel
theorem d_Mod_composeRow_101 : decode b_Mod_composeRow 101 = .ok (.iload_n 2, 1) := by decide +kernel
theorem d_Mod_composeRow_102 : decode b_Mod_composeRow 102 = .ok (.iaload, 1) := by decide +kernel
theorem d_Mod_composeRow_103 : decode b_Mod_composeRow 103 = .ok (.iload 4, 2) := by decide +kernel
theorem d_Mod_composeRow_105 : decode b_Mod_composeRow 105 = .ok (.invokestatic 57, 3) := by decide +kernel
theorem d_Mod_composeRow_108 : decode b_Mod_composeRow 108 = .ok (.goto 4, 3) := by decide +kernel
theorem d_Mod_composeRow_111 : decode b_Mod_composeRow 111 = .ok (.iconst 0, 1) := by decide +kernel
theorem d_Mod_composeRow_112 : decode b_Mod_composeRow 112 = .ok (.istore 6, 2) := by decide +kernel
theorem d_Mod_composeRow_114 : decode b_Mod_composeRow 114 = .ok (.iload 6, 2) := by decide +kernel
theorem d_Mod_composeRow_116 : decode b_Mod_composeRow 116 = .ok (.ifCond .le 14, 3) := by decide +kernel
theorem d_Mod_composeRow_119 : decode b_Mod_composeRow 119 = .ok (.aload_n 0, 1) := by decide +kernel
theorem d_Mod_composeRow_120 : decode b_Mod_composeRow 120 = .ok (.getfield 16, 3) := by decide +kernel
theorem d_Mod_composeRow_123 : decode b_Mod_composeRow 123 = .ok (.iload_n 2, 1) := by decide +kernel
theorem d_Mod_composeRow_124 : decode b_Mod_composeRow 124 = .ok (.iload 6, 2) := by decide +kernel
theorem d_Mod_composeRow_126 : decode b_Mod_composeRow 126 = .ok (.iastore, 1) := by decide +kernel
theorem d_Mod_composeRow_127 : decode b_Mod_composeRow 127 = .ok (.goto 28, 3) := by decide +kernel
theorem d_Mod_composeRow_130 : decode b_Mod_composeRow 130 = .ok (.iload 4, 2) := by decide +kernel
theorem d_Mod_composeRow_132 : decode b_Mod_composeRow 132 = .ok (.invokestatic 45, 3) := by decide +kernel
theorem d_Mod_composeRow_135 : decode b_Mod_composeRow 135 = .ok (.ifCond .ne 7, 3) := by decide +kernel
theorem d_Mod_composeRow_138 : decode b_Mod_composeRow 138 = .ok (.iload_n 1, 1) := by decide +kernel
theorem d_Mod_composeRow_139 : decode b_Mod_composeRow 139 = .ok (.goto 4, 3) := by decide +kernel
theorem d_Mod_composeRow_142 : decode b_Mod_composeRow 142 = .ok (.iload_n 2, 1) := by decide +kernel
theorem d_Mod_composeRow_143 : decode b_Mod_composeRow 143 = .ok (.istore_n 2, 1) := by decide +kernel
theorem d_Mod_composeRow_144 : decode b_Mod_composeRow 144 = .ok (.aload_n 0, 1) := by decide +kernel
theorem d_Mod_composeRow_145 : decode b_Mod_composeRow 145 = .ok (.getfield 16, 3) := by decide +kernel
theorem d_Mod_composeRow_148 : decode b_Mod_composeRow 148 = .ok (.iload_n 1, 1) := by decide +kernel
theorem d_Mod_composeRow_149 : decode b_Mod_composeRow 149 = .ok (.iload 4, 2) := by decide +kernel
theorem d_Mod_composeRow_151 : decode b_Mod_composeRow 151 = .ok (.iastore, 1) := by decide +kernel
theorem d_Mod_composeRow_152 : decode b_Mod_composeRow 152 = .ok (.iinc 1 1, 3) := by decide +kernel
theorem d_Mod_composeRow_155 : decode b_Mod_composeRow 155 = .ok (.iinc 3 1, 3) := by decide +kernel
theorem d_Mod_composeRow_158 : decode b_Mod_composeRow 158 = .ok (.goto (-148), 3) := by decide +kernel
theorem d_Mod_composeRow_161 : decode b_Mod_composeRow 161 = .ok (.aload_n 0, 1) := by decide +kernel
theorem d_Mod_composeRow_162 : decode b_Mod_composeRow 162 = .ok (.iload_n 1, 1) := by decide +kernel
theorem d_Mod_composeRow_163 : decode b_Mod_composeRow 163 = .ok (.putfield 64, 3) := by decide +kernel
theorem d_Mod_composeRow_166 : decode b_Mod_composeRow 166 = .ok (.return_, 1) := by decide +kernel
theorem d_Mod_adapt_0 : decode b_Mod_adapt 0 = .ok (.iload_n 3, 1) := by decide +kernel
theorem d_Mod_adapt_1 : decode b_Mod_adapt 1 = .ok (.ifCond .eq 11, 3) := by decide +kernel
theorem d_Mod_adapt_4 : decode b_Mod_adapt 4 = .ok (.iload_n 1, 1) := by decide +kernel
theorem d_Mod_adapt_5 : decode b_Mod_adapt 5 = .ok (.sipush 700, 3) := by decide +kernel
theorem d_Mod_adapt_8 : decode b_Mod_adapt 8 = .ok (.idiv, 1) := by decide +kernel
theorem d_Mod_adapt_9 : decode b_Mod_adapt 9 = .ok (.goto 6, 3) := by decide +kernel
theorem d_Mod_adapt_12 : decode b_Mod_adapt 12 = .ok (.iload_n 1, 1) := by decide +kernel
theorem d_Mod_adapt_13 : decode b_Mod_adapt 13 = .ok (.iconst 2, 1) := by decide +kernel
theorem d_Mod_adapt_14 : decode b_Mod_adapt 14 = .ok (.idiv, 1) := by decide +kernel
theorem d_Mod_adapt_15 : decode b_Mod_adapt 15 = .ok (.istore 4, 2) := by decide +kernel
theorem d_Mod_adapt_17 : decode b_Mod_adapt 17 = .ok (.iload 4, 2) := by decide +kernel
theorem d_Mod_adapt_19 : decode b_Mod_adapt 19 = .ok (.iload 4, 2) := by decide +kernel
theorem d_Mod_adapt_21 : decode b_Mod_adapt 21 = .ok (.iload_n 2, 1) := by decide +kernel
theorem d_Mod_adapt_22 : decode b_Mod_adapt 22 = .ok (.idiv, 1) := by decide +kernel
theorem d_Mod_adapt_23 : decode b_Mod_adapt 23 = .ok (.iadd, 1) := by decide +kernel
theorem d_Mod_adapt_24 : decode b_Mod_adapt 24 = .ok (.istore 4, 2) := by decide +kernel
theorem d_Mod_adapt_26 : decode b_Mod_adapt 26 = .ok (.iconst 0, 1) := by decide +kernel
theorem d_Mod_adapt_27 : decode b_Mod_adapt 27 = .ok (.istore 5, 2) := by decide +kernel
theorem d_Mod_adapt_29 : decode b_Mod_adapt 29 = .ok (.iload 4, 2) := by decide +kernel
theorem d_Mod_adapt_31 : decode b_Mod_adapt 31 = .ok (.sipush 455, 3) := by decide +kernel
theorem d_Mod_adapt_34 : decode b_Mod_adapt 34 = .ok (.if_icmp .le 20, 3) := by decide +kernel
theorem d_Mod_adapt_37 : decode b_Mod_adapt 37 = .ok (.iload 4, 2) := by decide +kernel
theorem d_Mod_adapt_39 : decode b_Mod_adapt 39 = .ok (.bipush 35, 2) := by decide +kernel
theorem d_Mod_adapt_41 : decode b_Mod_adapt 41 = .ok (.idiv, 1) := by decide +kernel
theorem d_Mod_adapt_42 : decode b_Mod_adapt 42 = .ok (.istore 4, 2) := by decide +kernel
theorem d_Mod_adapt_44 : decode b_Mod_adapt 44 = .ok (.iload 5, 2) := by decide +kernel
theorem d_Mod_adapt_46 : decode b_Mod_adapt 46 = .ok (.bipush 36, 2) := by decide +kernel
theorem d_Mod_adapt_48 : decode b_Mod_adapt 48 = .ok (.iadd, 1) := by decide +kernel
theorem d_Mod_adapt_49 : decode b_Mod_adapt 49 = .ok (.istore 5, 2) := by decide +kernel
theorem d_Mod_adapt_51 : decode b_Mod_adapt 51 = .ok (.goto (-22), 3) := by decide +kernel
theorem d_Mod_adapt_54 : decode b_Mod_adapt 54 = .ok (.aload_n 0, 1) := by decide +kernel
theorem d_Mod_adapt_55 : decode b_Mod_adapt 55 = .ok (.iload 5, 2) := by decide +kernel
theorem d_Mod_adapt_57 : decode b_Mod_adapt 57 = .ok (.bipush 36, 2) := by decide +kernel
theorem d_Mod_adapt_59 : decode b_Mod_adapt 59 = .ok (.iload 4, 2) := by decide +kernel
theorem d_Mod_adapt_61 : decode b_Mod_adapt 61 = .ok (.imul, 1) := by decide +kernel
theorem d_Mod_adapt_62 : decode b_Mod_adapt 62 = .ok (.iload 4, 2) := by decide +kernel
theorem d_Mod_adapt_64 : decode b_Mod_adapt 64 = .ok (.bipush 38, 2) := by decide +kernel
theorem d_Mod_adapt_66 : decode b_Mod_adapt 66 = .ok (.iadd, 1) := by decide +kernel
theorem d_Mod_adapt_67 : decode b_Mod_adapt 67 = .ok (.idiv, 1) := by decide +kernel
theorem d_Mod_adapt_68 : decode b_Mod_adapt 68 = .ok (.iadd, 1) := by decide +kernel
theorem d_Mod_adapt_69 : decode b_Mod_adapt 69 = .ok (.putfield 74, 3) := by decide +kernel
theorem d_Mod_adapt_72 : decode b_Mod_adapt 72 = .ok (.return_, 1) := by decide +kernel
theorem d_Mod_threshold_0 : decode b_Mod_threshold 0 = .ok (.iload_n 1, 1) := by decide +kernel
theorem d_Mod_threshold_1 : decode b_Mod_threshold 1 = .ok (.aload_n 0, 1) := by decide +kernel
theorem d_Mod_threshold_2 : decode b_Mod_threshold 2 = .ok (.getfield 74, 3) := by decide +kernel
theorem d_Mod_threshold_5 : decode b_Mod_threshold 5 = .ok (.isub, 1) := by decide +kernel
theorem d_Mod_threshold_6 : decode b_Mod_threshold 6 = .ok (.istore_n 2, 1) := by decide +kernel
theorem d_Mod_threshold_7 : decode b_Mod_threshold 7 = .ok (.iload_n 2, 1) := by decide +kernel
theorem d_Mod_threshold_8 : decode b_Mod_threshold 8 = .ok (.iconst 1, 1) := by decide +kernel
theorem d_Mod_threshold_9 : decode b_Mod_threshold 9 = .ok (.if_icmp .ge 7, 3) := by decide +kernel
theorem d_Mod_threshold_12 : decode b_Mod_threshold 12 = .ok (.iconst 1, 1) := by decide +kernel
theorem d_Mod_threshold_13 : decode b_Mod_threshold 13 = .ok (.goto 15, 3) := by decide +kernel
theorem d_Mod_threshold_16 : decode b_Mod_threshold 16 = .ok (.iload_n 2, 1) := by decide +kernel
theorem d_Mod_threshold_17 : decode b_Mod_threshold 17 = .ok (.bipush 26, 2) := by decide +kernel
theorem d_Mod_threshold_19 : decode b_Mod_threshold 19 = .ok (.if_icmp .le 8, 3) := by decide +kernel
theorem d_Mod_threshold_22 : decode b_Mod_threshold 22 = .ok (.bipush 26, 2) := by decide +kernel
theorem d_Mod_threshold_24 : decode b_Mod_threshold 24 = .ok (.goto 4, 3) := by decide +kernel
theorem d_Mod_threshold_27 : decode b_Mod_threshold 27 = .ok (.iload_n 2, 1) := by decide +kernel
theorem d_Mod_threshold_28 : decode b_Mod_threshold 28 = .ok (.ireturn, 1) := by decide +kernel
theorem d_Mod_out_0 : decode b_Mod_out 0 = .ok (.aload_n 0, 1) := by decide +kernel
theorem d_Mod_out_1 : decode b_Mod_out 1 = .ok (.getfield 13, 3) := by decide +kernel
theorem d_Mod_out_4 : decode b_Mod_out 4 = .ok (.aload_n 0, 1) := by decide +kernel
theorem d_Mod_out_5 : decode b_Mod_out 5 = .ok (.getfield 77, 3) := by decide +kernel
theorem d_Mod_out_8 : decode b_Mod_out 8 = .ok (.iload_n 1, 1) := by decide +kernel
theorem d_Mod_out_9 : decode b_Mod_out 9 = .ok (.iastore, 1) := by decide +kernel
theorem d_Mod_out_10 : decode b_Mod_out 10 = .ok (.aload_n 0, 1) := by decide +kernel
theorem d_Mod_out_11 : decode b_Mod_out 11 = .ok (.dup, 1) := by decide +kernel
theorem d_Mod_out_12 : decode b_Mod_out 12 = .ok (.getfield 77, 3) := by decide +kernel
theorem d_Mod_out_15 : decode b_Mod_out 15 = .ok (.iconst 1, 1) := by decide +kernel
theorem d_Mod_out_16 : decode b_Mod_out 16 = .ok (.iadd, 1) := by decide +kernel
theorem d_Mod_out_17 : decode b_Mod_out 17 = .ok (.putfield 77, 3) := by decide +kernel
theorem d_Mod_out_20 : decode b_Mod_out 20 = .ok (.return_, 1) := by decide +kernel
theorem d_Mod_outDigit_0 : decode b_Mod_outDigit 0 = .ok (.aload_n 0, 1) := by decide +kernel
theorem d_Mod_outDigit_1 : decode b_Mod_outDigit 1 = .ok (.iload_n 1, 1) := by decide +kernel
theorem d_Mod_outDigit_2 : decode b_Mod_outDigit 2 = .ok (.bipush 26, 2) := by decide +kernel
theorem d_Mod_outDigit_4 : decode b_Mod_outDigit 4 = .ok (.if_icmp .ge 10, 3) := by decide +kernel
theorem d_Mod_outDigit_7 : decode b_Mod_outDigit 7 = .ok (.bipush 97, 2) := by decide +kernel
theorem d_Mod_outDigit_9 : decode b_Mod_outDigit 9 = .ok (.iload_n 1, 1) := by decide +kernel
theorem d_Mod_outDigit_10 : decode b_Mod_outDigit 10 = .ok (.iadd, 1) := by decide +kernel
theorem d_Mod_outDigit_11 : decode b_Mod_outDigit 11 = .ok (.goto 7, 3) := by decide +kernel
theorem d_Mod_outDigit_14 : decode b_Mod_outDigit 14 = .ok (.bipush 22, 2) := by decide +kernel
theorem d_Mod_outDigit_16 : decode b_Mod_outDigit 16 = .ok (.iload_n 1, 1) := by decide +kernel
theorem d_Mod_outDigit_17 : decode b_Mod_outDigit 17 = .ok (.iadd, 1) := by decide +kernel
theorem d_Mod_outDigit_18 : decode b_Mod_outDigit 18 = .ok (.invokevirtual 80, 3) := by decide +kernel
theorem d_Mod_outDigit_21 : decode b_Mod_outDigit 21 = .ok (.return_, 1) := by decide +kernel
theorem d_Mod_outNumber_0 : decode b_Mod_outNumber 0 = .ok (.iload_n 1, 1) := by decide +kernel
theorem d_Mod_outNumber_1 : decode b_Mod_outNumber 1 = .ok (.istore_n 2, 1) := by decide +kernel
theorem d_Mod_outNumber_2 : decode b_Mod_outNumber 2 = .ok (.bipush 36, 2) := by decide +kernel
theorem d_Mod_outNumber_4 : decode b_Mod_outNumber 4 = .ok (.istore_n 3, 1) := by decide +kernel
theorem d_Mod_outNumber_5 : decode b_Mod_outNumber 5 = .ok (.aload_n 0, 1) := by decide +kernel
theorem d_Mod_outNumber_6 : decode b_Mod_outNumber 6 = .ok (.iload_n 3, 1) := by decide +kernel
theorem d_Mod_outNumber_7 : decode b_Mod_outNumber 7 = .ok (.invokevirtual 84, 3) := by decide +kernel
theorem d_Mod_outNumber_10 : decode b_Mod_outNumber 10 = .ok (.istore 4, 2) := by decide +kernel
theorem d_Mod_outNumber_12 : decode b_Mod_outNumber 12 = .ok (.iload_n 2, 1) := by decide +kernel
theorem d_Mod_outNumber_13 : decode b_Mod_outNumber 13 = .ok (.iload 4, 2) := by decide +kernel
theorem d_Mod_outNumber_15 : decode b_Mod_outNumber 15 = .ok (.if_icmp .lt 46, 3) := by decide +kernel
theorem d_Mod_outNumber_18 : decode b_Mod_outNumber 18 = .ok (.aload_n 0, 1) := by decide +kernel
theorem d_Mod_outNumber_19 : decode b_Mod_outNumber 19 = .ok (.iload 4, 2) := by decide +kernel
theorem d_Mod_outNumber_21 : decode b_Mod_outNumber 21 = .ok (.iload_n 2, 1) := by decide +kernel
theorem d_Mod_outNumber_22 : decode b_Mod_outNumber 22 = .ok (.iload 4, 2) := by decide +kernel
theorem d_Mod_outNumber_24 : decode b_Mod_outNumber 24 = .ok (.isub, 1) := by decide +kernel
theorem d_Mod_outNumber_25 : decode b_Mod_outNumber 25 = .ok (.bipush 36, 2) := by decide +kernel
theorem d_Mod_outNumber_27 : decode b_Mod_outNumber 27 = .ok (.iload 4, 2) := by decide +kernel
theorem d_Mod_outNumber_29 : decode b_Mod_outNumber 29 = .ok (.isub, 1) := by decide +kernel
theorem d_Mod_outNumber_30 : decode b_Mod_outNumber 30 = .ok (.irem, 1) := by decide +kernel
theorem d_Mod_outNumber_31 : decode b_Mod_outNumber 31 = .ok (.iadd, 1) := by decide +kernel
theorem d_Mod_outNumber_32 : decode b_Mod_outNumber 32 = .ok (.invokevirtual 87, 3) := by decide +kernel
theorem d_Mod_outNumber_35 : decode b_Mod_outNumber 35 = .ok (.iload_n 2, 1) := by decide +kernel
theorem d_Mod_outNumber_36 : decode b_Mod_outNumber 36 = .ok (.iload 4, 2) := by decide +kernel
theorem d_Mod_outNumber_38 : decode b_Mod_outNumber 38 = .ok (.isub, 1) := by decide +kernel
theorem d_Mod_outNumber_39 : decode b_Mod_outNumber 39 = .ok (.bipush 36, 2) := by decide +kernel
theorem d_Mod_outNumber_41 : decode b_Mod_outNumber 41 = .ok (.iload 4, 2) := by decide +kernel
theorem d_Mod_outNumber_43 : decode b_Mod_outNumber 43 = .ok (.isub, 1) := by decide +kernel
theorem d_Mod_outNumber_44 : decode b_Mod_outNumber 44 = .ok (.idiv, 1) := by decide +kernel
theorem d_Mod_outNumber_45 : decode b_Mod_outNumber 45 = .ok (.istore_n 2, 1) := by decide +kernel
theorem d_Mod_outNumber_46 : decode b_Mod_outNumber 46 = .ok (.iload_n 3, 1) := by decide +kernel
theorem d_Mod_outNumber_47 : decode b_Mod_outNumber 47 = .ok (.bipush 36, 2) := by decide +kernel
theorem d_Mod_outNumber_49 : decode b_Mod_outNumber 49 = .ok (.iadd, 1) := by decide +kernel
theorem d_Mod_outNumber_50 : decode b_Mod_outNumber 50 = .ok (.istore_n 3, 1) := by decide +kernel
theorem d_Mod_outNumber_51 : decode b_Mod_outNumber 51 = .ok (.aload_n 0, 1) := by decide +kernel
theorem d_Mod_outNumber_52 : decode b_Mod_outNumber 52 = .ok (.iload_n 3, 1) := by decide +kernel
theorem d_Mod_outNumber_53 : decode b_Mod_outNumber 53 = .ok (.invokevirtual 84, 3) := by decide +kernel
theorem d_Mod_outNumber_56 : decode b_Mod_outNumber 56 = .ok (.istore 4, 2) := by decide +kernel
theorem d_Mod_outNumber_58 : decode b_Mod_outNumber 58 = .ok (.goto (-46), 3) := by decide +kernel
theorem d_Mod_outNumber_61 : decode b_Mod_outNumber 61 = .ok (.aload_n 0, 1) := by decide +kernel
theorem d_Mod_outNumber_62 : decode b_Mod_outNumber 62 = .ok (.iload_n 2, 1) := by decide +kernel
theorem d_Mod_outNumber_63 : decode b_Mod_outNumber 63 = .ok (.invokevirtual 87, 3) := by decide +kernel
theorem d_Mod_outNumber_66 : decode b_Mod_outNumber 66 = .ok (.return_, 1) := by decide +kernel
theorem d_Mod_leastLeft_0 : decode b_Mod_leastLeft 0 = .ok (.iconst (-1), 1) := by decide +kernel
theorem d_Mod_leastLeft_1 : decode b_Mod_leastLeft 1 = .ok (.istore_n 1, 1) := by decide +kernel
theorem d_Mod_leastLeft_2 : decode b_Mod_leastLeft 2 = .ok (.aload_n 0, 1) := by decide +kernel
theorem d_Mod_leastLeft_3 : decode b_Mod_leastLeft 3 = .ok (.getfield 64, 3) := by decide +kernel
theorem d_Mod_leastLeft_6 : decode b_Mod_leastLeft 6 = .ok (.iconst 1, 1) := by decide +kernel
theorem d_Mod_leastLeft_7 : decode b_Mod_leastLeft 7 = .ok (.isub, 1) := by decide +kernel
theorem d_Mod_leastLeft_8 : decode b_Mod_leastLeft 8 = .ok (.istore_n 2, 1) := by decide +kernel
theorem d_Mod_leastLeft_9 : decode b_Mod_leastLeft 9 = .ok (.iload_n 2, 1) := by decide +kernel
theorem d_Mod_leastLeft_10 : decode b_Mod_leastLeft 10 = .ok (.ifCond .lt 43, 3) := by decide +kernel
theorem d_Mod_leastLeft_13 : decode b_Mod_leastLeft 13 = .ok (.aload_n 0, 1) := by decide +kernel
theorem d_Mod_leastLeft_14 : decode b_Mod_leastLeft 14 = .ok (.getfield 38, 3) := by decide +kernel
theorem d_Mod_leastLeft_17 : decode b_Mod_leastLeft 17 = .ok (.iload_n 2, 1) := by decide +kernel
theorem d_Mod_leastLeft_18 : decode b_Mod_leastLeft 18 = .ok (.baload, 1) := by decide +kernel
theorem d_Mod_leastLeft_19 : decode b_Mod_leastLeft 19 = .ok (.ifCond .ne 26, 3) := by decide +kernel
theorem d_Mod_leastLeft_22 : decode b_Mod_leastLeft 22 = .ok (.iload_n 1, 1) := by decide +kernel
theorem d_Mod_leastLeft_23 : decode b_Mod_leastLeft 23 = .ok (.ifCond .lt 18, 3) := by decide +kernel
theorem d_Mod_leastLeft_26 : decode b_Mod_leastLeft 26 = .ok (.aload_n 0, 1) := by decide +kernel
theorem d_Mod_leastLeft_27 : decode b_Mod_leastLeft 27 = .ok (.getfield 16, 3) := by decide +kernel
theorem d_Mod_leastLeft_30 : decode b_Mod_leastLeft 30 = .ok (.iload_n 2, 1) := by decide +kernel
theorem d_Mod_leastLeft_31 : decode b_Mod_leastLeft 31 = .ok (.iaload, 1) := by decide +kernel
theorem d_Mod_leastLeft_32 : decode b_Mod_leastLeft 32 = .ok (.aload_n 0, 1) := by decide +kernel
theorem d_Mod_leastLeft_33 : decode b_Mod_leastLeft 33 = .ok (.getfield 16, 3) := by decide +kernel
theorem d_Mod_leastLeft_36 : decode b_Mod_leastLeft 36 = .ok (.iload_n 1, 1) := by decide +kernel
theorem d_Mod_leastLeft_37 : decode b_Mod_leastLeft 37 = .ok (.iaload, 1) := by decide +kernel
theorem d_Mod_leastLeft_38 : decode b_Mod_leastLeft 38 = .ok (.if_icmp .gt 7, 3) := by decide +kernel
theorem d_Mod_leastLeft_41 : decode b_Mod_leastLeft 41 = .ok (.iload_n 2, 1) := by decide +kernel
theorem d_Mod_leastLeft_42 : decode b_Mod_leastLeft 42 = .ok (.goto 4, 3) := by decide +kernel
theorem d_Mod_leastLeft_45 : decode b_Mod_leastLeft 45 = .ok (.iload_n 1, 1) := by decide +kernel
theorem d_Mod_leastLeft_46 : decode b_Mod_leastLeft 46 = .ok (.istore_n 1, 1) := by decide +kernel
theorem d_Mod_leastLeft_47 : decode b_Mod_leastLeft 47 = .ok (.iinc 2 ( -1), 3) := by decide +kernel
theorem d_Mod_leastLeft_50 : decode b_Mod_leastLeft 50 = .ok (.goto (-41), 3) := by decide +kernel
theorem d_Mod_leastLeft_53 : decode b_Mod_leastLeft 53 = .ok (.iload_n 1, 1) := by decide +kernel
theorem d_Mod_leastLeft_54 : decode b_Mod_leastLeft 54 = .ok (.ireturn, 1) := by decide +kernel
theorem d_Mod_packRow_0 : decode b_Mod_packRow 0 = .ok (.iconst 0, 1) := by decide +kernel
theorem d_Mod_packRow_1 : decode b_Mod_packRow 1 = .ok (.istore_n 1, 1) := by decide +kernel
theorem d_Mod_packRow_2 : decode b_Mod_packRow 2 = .ok (.iconst 0, 1) := by decide +kernel
theorem d_Mod_packRow_3 : decode b_Mod_packRow 3 = .ok (.istore_n 2, 1) := by decide +kernel
theorem d_Mod_packRow_4 : decode b_Mod_packRow 4 = .ok (.iload_n 2, 1) := by decide +kernel
theorem d_Mod_packRow_5 : decode b_Mod_packRow 5 = .ok (.aload_n 0, 1) := by decide +kernel
theorem d_Mod_packRow_6 : decode b_Mod_packRow 6 = .ok (.getfield 64, 3) := by decide +kernel
theorem d_Mod_packRow_9 : decode b_Mod_packRow 9 = .ok (.if_icmp .ge 54, 3) := by decide +kernel
theorem d_Mod_packRow_12 : decode b_Mod_packRow 12 = .ok (.aload_n 0, 1) := by decide +kernel
theorem d_Mod_packRow_13 : decode b_Mod_packRow 13 = .ok (.getfield 38, 3) := by decide +kernel
theorem d_Mod_packRow_16 : decode b_Mod_packRow 16 = .ok (.iload_n 2, 1) := by decide +kernel
theorem d_Mod_packRow_17 : decode b_Mod_packRow 17 = .ok (.aload_n 0, 1) := by decide +kernel
theorem d_Mod_packRow_18 : decode b_Mod_packRow 18 = .ok (.getfield 16, 3) := by decide +kernel
theorem d_Mod_packRow_21 : decode b_Mod_packRow 21 = .ok (.iload_n 2, 1) := by decide +kernel
theorem d_Mod_packRow_22 : decode b_Mod_packRow 22 = .ok (.iaload, 1) := by decide +kernel
theorem d_Mod_packRow_23 : decode b_Mod_packRow 23 = .ok (.sipush 128, 3) := by decide +kernel
theorem d_Mod_packRow_26 : decode b_Mod_packRow 26 = .ok (.if_icmp .ge 7, 3) := by decide +kernel
theorem d_Mod_packRow_29 : decode b_Mod_packRow 29 = .ok (.iconst 1, 1) := by decide +kernel
theorem d_Mod_packRow_30 : decode b_Mod_packRow 30 = .ok (.goto 4, 3) := by decide +kernel
theorem d_Mod_packRow_33 : decode b_Mod_packRow 33 = .ok (.iconst 0, 1) := by decide +kernel
theorem d_Mod_packRow_34 : decode b_Mod_packRow 34 = .ok (.bastore, 1) := by decide +kernel
theorem d_Mod_packRow_35 : decode b_Mod_packRow 35 = .ok (.aload_n 0, 1) := by decide +kernel
theorem d_Mod_packRow_36 : decode b_Mod_packRow 36 = .ok (.getfield 38, 3) := by decide +kernel
theorem d_Mod_packRow_39 : decode b_Mod_packRow 39 = .ok (.iload_n 2, 1) := by decide +kernel
theorem d_Mod_packRow_40 : decode b_Mod_packRow 40 = .ok (.baload, 1) := by decide +kernel
theorem d_Mod_packRow_41 : decode b_Mod_packRow 41 = .ok (.ifCond .eq 16, 3) := by decide +kernel
theorem d_Mod_packRow_44 : decode b_Mod_packRow 44 = .ok (.aload_n 0, 1) := by decide +kernel
theorem d_Mod_packRow_45 : decode b_Mod_packRow 45 = .ok (.aload_n 0, 1) := by decide +kernel
theorem d_Mod_packRow_46 : decode b_Mod_packRow 46 = .ok (.getfield 16, 3) := by decide +kernel
theorem d_Mod_packRow_49 : decode b_Mod_packRow 49 = .ok (.iload_n 2, 1) := by decide +kernel
theorem d_Mod_packRow_50 : decode b_Mod_packRow 50 = .ok (.iaload, 1) := by decide +kernel
theorem d_Mod_packRow_51 : decode b_Mod_packRow 51 = .ok (.invokevirtual 80, 3) := by decide +kernel
theorem d_Mod_packRow_54 : decode b_Mod_packRow 54 = .ok (.iinc 1 1, 3) := by decide +kernel
theorem d_Mod_packRow_57 : decode b_Mod_packRow 57 = .ok (.iinc 2 1, 3) := by decide +kernel
theorem d_Mod_packRow_60 : decode b_Mod_packRow 60 = .ok (.goto (-56), 3) := by decide +kernel
theorem d_Mod_packRow_63 : decode b_Mod_packRow 63 = .ok (.iload_n 1, 1) := by decide +kernel
theorem d_Mod_packRow_64 : decode b_Mod_packRow 64 = .ok (.ifCond .le 9, 3) := by decide +kernel
theorem d_Mod_packRow_67 : decode b_Mod_packRow 67 = .ok (.aload_n 0, 1) := by decide +kernel
theorem d_Mod_packRow_68 : decode b_Mod_packRow 68 = .ok (.bipush 45, 2) := by decide +kernel
theorem d_Mod_packRow_70 : decode b_Mod_packRow 70 = .ok (.invokevirtual 80, 3) := by decide +kernel
theorem d_Mod_packRow_73 : decode b_Mod_packRow 73 = .ok (.aload_n 0, 1) := by decide +kernel
theorem d_Mod_packRow_74 : decode b_Mod_packRow 74 = .ok (.bipush 72, 2) := by decide +kernel
theorem d_Mod_packRow_76 : decode b_Mod_packRow 76 = .ok (.putfield 74, 3) := by decide +kernel
theorem d_Mod_packRow_79 : decode b_Mod_packRow 79 = .ok (.sipush 128, 3) := by decide +kernel
theorem d_Mod_packRow_82 : decode b_Mod_packRow 82 = .ok (.istore_n 2, 1) := by decide +kernel
theorem d_Mod_packRow_83 : decode b_Mod_packRow 83 = .ok (.iconst 0, 1) := by decide +kernel
theorem d_Mod_packRow_84 : decode b_Mod_packRow 84 = .ok (.istore_n 3, 1) := by decide +kernel
theorem d_Mod_packRow_85 : decode b_Mod_packRow 85 = .ok (.iconst 1, 1) := by decide +kernel
theorem d_Mod_packRow_86 : decode b_Mod_packRow 86 = .ok (.istore 4, 2) := by decide +kernel
theorem d_Mod_packRow_88 : decode b_Mod_packRow 88 = .ok (.aload_n 0, 1) := by decide +kernel
theorem d_Mod_packRow_89 : decode b_Mod_packRow 89 = .ok (.invokevirtual 90, 3) := by decide +kernel
theorem d_Mod_packRow_92 : decode b_Mod_packRow 92 = .ok (.istore 5, 2) := by decide +kernel
theorem d_Mod_packRow_94 : decode b_Mod_packRow 94 = .ok (.iload 5, 2) := by decide +kernel
theorem d_Mod_packRow_96 : decode b_Mod_packRow 96 = .ok (.ifCond .lt 116, 3) := by decide +kernel
theorem d_Mod_packRow_99 : decode b_Mod_packRow 99 = .ok (.iconst 0, 1) := by decide +kernel
theorem d_Mod_packRow_100 : decode b_Mod_packRow 100 = .ok (.istore 6, 2) := by decide +kernel
theorem d_Mod_packRow_102 : decode b_Mod_packRow 102 = .ok (.iconst 0, 1) := by decide +kernel
theorem d_Mod_packRow_103 : decode b_Mod_packRow 103 = .ok (.istore 7, 2) := by decide +kernel
theorem d_Mod_packRow_105 : decode b_Mod_packRow 105 = .ok (.iload 7, 2) := by decide +kernel
theorem d_Mod_packRow_107 : decode b_Mod_packRow 107 = .ok (.iload 5, 2) := by decide +kernel
theorem d_Mod_packRow_109 : decode b_Mod_packRow 109 = .ok (.if_icmp .ge 30, 3) := by decide +kernel
theorem d_Mod_packRow_112 : decode b_Mod_packRow 112 = .ok (.aload_n 0, 1) := by decide +kernel
theorem d_Mod_packRow_113 : decode b_Mod_packRow 113 = .ok (.getfield 38, 3) := by decide +kernel
theorem d_Mod_packRow_116 : decode b_Mod_packRow 116 = .ok (.iload 7, 2) := by decide +kernel
theorem d_Mod_packRow_118 : decode b_Mod_packRow 118 = .ok (.baload, 1) := by decide +kernel
theorem d_Mod_packRow_119 : decode b_Mod_packRow 119 = .ok (.ifCond .eq 10, 3) := by decide +kernel
theorem d_Mod_packRow_122 : decode b_Mod_packRow 122 = .ok (.iload 6, 2) := by decide +kernel
theorem d_Mod_packRow_124 : decode b_Mod_packRow 124 = .ok (.iconst 1, 1) := by decide +kernel
theorem d_Mod_packRow_125 : decode b_Mod_packRow 125 = .ok (.iadd, 1) := by decide +kernel
theorem d_Mod_packRow_126 : decode b_Mod_packRow 126 = .ok (.goto 5, 3) := by decide +kernel
theorem d_Mod_packRow_129 : decode b_Mod_packRow 129 = .ok (.iload 6, 2) := by decide +kernel
theorem d_Mod_packRow_131 : decode b_Mod_packRow 131 = .ok (.istore 6, 2) := by decide +kernel
theorem d_Mod_packRow_133 : decode b_Mod_packRow 133 = .ok (.iinc 7 1, 3) := by decide +kernel
theorem d_Mod_packRow_136 : decode b_Mod_packRow 136 = .ok (.goto (-31), 3) := by decide +kernel
theorem d_Mod_packRow_139 : decode b_Mod_packRow 139 = .ok (.aload_n 0, 1) := by decide +kernel
theorem d_Mod_packRow_140 : decode b_Mod_packRow 140 = .ok (.getfield 16, 3) := by decide +kernel
theorem d_Mod_packRow_143 : decode b_Mod_packRow 143 = .ok (.iload 5, 2) := by decide +kernel
theorem d_Mod_packRow_145 : decode b_Mod_packRow 145 = .ok (.iaload, 1) := by decide +kernel
theorem d_Mod_packRow_146 : decode b_Mod_packRow 146 = .ok (.iload_n 2, 1) := by decide +kernel
theorem d_Mod_packRow_147 : decode b_Mod_packRow 147 = .ok (.isub, 1) := by decide +kernel
theorem d_Mod_packRow_148 : decode b_Mod_packRow 148 = .ok (.iload_n 1, 1) := by decide +kernel
theorem d_Mod_packRow_149 : decode b_Mod_packRow 149 = .ok (.iconst 1, 1) := by decide +kernel
theorem d_Mod_packRow_150 : decode b_Mod_packRow 150 = .ok (.iadd, 1) := by decide +kernel
theorem d_Mod_packRow_151 : decode b_Mod_packRow 151 = .ok (.imul, 1) := by decide +kernel
theorem d_Mod_packRow_152 : decode b_Mod_packRow 152 = .ok (.iload 6, 2) := by decide +kernel
theorem d_Mod_packRow_154 : decode b_Mod_packRow 154 = .ok (.iadd, 1) := by decide +kernel
theorem d_Mod_packRow_155 : decode b_Mod_packRow 155 = .ok (.iload_n 3, 1) := by decide +kernel
theorem d_Mod_packRow_156 : decode b_Mod_packRow 156 = .ok (.isub, 1) := by decide +kernel
theorem d_Mod_packRow_157 : decode b_Mod_packRow 157 = .ok (.istore 7, 2) := by decide +kernel
theorem d_Mod_packRow_159 : decode b_Mod_packRow 159 = .ok (.aload_n 0, 1) := by decide +kernel
theorem d_Mod_packRow_160 : decode b_Mod_packRow 160 = .ok (.iload 7, 2) := by decide +kernel
theorem d_Mod_packRow_162 : decode b_Mod_packRow 162 = .ok (.invokevirtual 94, 3) := by decide +kernel
theorem d_Mod_packRow_165 : decode b_Mod_packRow 165 = .ok (.aload_n 0, 1) := by decide +kernel
theorem d_Mod_packRow_166 : decode b_Mod_packRow 166 = .ok (.iload 7, 2) := by decide +kernel
theorem d_Mod_packRow_168 : decode b_Mod_packRow 168 = .ok (.iload_n 1, 1) := by decide +kernel
theorem d_Mod_packRow_169 : decode b_Mod_packRow 169 = .ok (.iconst 1, 1) := by decide +kernel
theorem d_Mod_packRow_170 : decode b_Mod_packRow 170 = .ok (.iadd, 1) := by decide +kernel
theorem d_Mod_packRow_171 : decode b_Mod_packRow 171 = .ok (.iload 4, 2) := by decide +kernel
theorem d_Mod_packRow_173 : decode b_Mod_packRow 173 = .ok (.invokevirtual 97, 3) := by decide +kernel
theorem d_Mod_packRow_176 : decode b_Mod_packRow 176 = .ok (.aload_n 0, 1) := by decide +kernel
theorem d_Mod_packRow_177 : decode b_Mod_packRow 177 = .ok (.getfield 38, 3) := by decide +kernel
theorem d_Mod_packRow_180 : decode b_Mod_packRow 180 = .ok (.iload 5, 2) := by decide +kernel
theorem d_Mod_packRow_182 : decode b_Mod_packRow 182 = .ok (.iconst 1, 1) := by decide +kernel
theorem d_Mod_packRow_183 : decode b_Mod_packRow 183 = .ok (.bastore, 1) := by decide +kernel
theorem d_Mod_packRow_184 : decode b_Mod_packRow 184 = .ok (.iconst 0, 1) := by decide +kernel
theorem d_Mod_packRow_185 : decode b_Mod_packRow 185 = .ok (.istore 4, 2) := by decide +kernel
theorem d_Mod_packRow_187 : decode b_Mod_packRow 187 = .ok (.iinc 1 1, 3) := by decide +kernel
theorem d_Mod_packRow_190 : decode b_Mod_packRow 190 = .ok (.aload_n 0, 1) := by decide +kernel
theorem d_Mod_packRow_191 : decode b_Mod_packRow 191 = .ok (.getfield 16, 3) := by decide +kernel
theorem d_Mod_packRow_194 : decode b_Mod_packRow 194 = .ok (.iload 5, 2) := by decide +kernel
theorem d_Mod_packRow_196 : decode b_Mod_packRow 196 = .ok (.iaload, 1) := by decide +kernel
theorem d_Mod_packRow_197 : decode b_Mod_packRow 197 = .ok (.istore_n 2, 1) := by decide +kernel
theorem d_Mod_packRow_198 : decode b_Mod_packRow 198 = .ok (.iload 6, 2) := by decide +kernel
theorem d_Mod_packRow_200 : decode b_Mod_packRow 200 = .ok (.iconst 1, 1) := by decide +kernel
theorem d_Mod_packRow_201 : decode b_Mod_packRow 201 = .ok (.iadd, 1) := by decide +kernel
theorem d_Mod_packRow_202 : decode b_Mod_packRow 202 = .ok (.istore_n 3, 1) := by decide +kernel
theorem d_Mod_packRow_203 : decode b_Mod_packRow 203 = .ok (.aload_n 0, 1) := by decide +kernel
theorem d_Mod_packRow_204 : decode b_Mod_packRow 204 = .ok (.invokevirtual 90, 3) := by decide +kernel
theorem d_Mod_packRow_207 : decode b_Mod_packRow 207 = .ok (.istore 5, 2) := by decide +kernel
theorem d_Mod_packRow_209 : decode b_Mod_packRow 209 = .ok (.goto (-115), 3) := by decide +kernel
theorem d_Mod_packRow_212 : decode b_Mod_packRow 212 = .ok (.return_, 1) := by decide +kernel
theorem d_Mod_digit_0 : decode b_Mod_digit 0 = .ok (.iload_n 0, 1) := by decide +kernel
theorem d_Mod_digit_1 : decode b_Mod_digit 1 = .ok (.bipush 97, 2) := by decide +kernel
theorem d_Mod_digit_3 : decode b_Mod_digit 3 = .ok (.bipush 122, 2) := by decide +kernel
theorem d_Mod_digit_5 : decode b_Mod_digit 5 = .ok (.invokestatic 41, 3) := by decide +kernel
theorem d_Mod_digit_8 : decode b_Mod_digit 8 = .ok (.ifCond .eq 10, 3) := by decide +kernel
theorem d_Mod_digit_11 : decode b_Mod_digit 11 = .ok (.iload_n 0, 1) := by decide +kernel
theorem d_Mod_digit_12 : decode b_Mod_digit 12 = .ok (.bipush 97, 2) := by decide +kernel
theorem d_Mod_digit_14 : decode b_Mod_digit 14 = .ok (.isub, 1) := by decide +kernel
theorem d_Mod_digit_15 : decode b_Mod_digit 15 = .ok (.goto 40, 3) := by decide +kernel
theorem d_Mod_digit_18 : decode b_Mod_digit 18 = .ok (.iload_n 0, 1) := by decide +kernel
theorem d_Mod_digit_19 : decode b_Mod_digit 19 = .ok (.bipush 65, 2) := by decide +kernel
theorem d_Mod_digit_21 : decode b_Mod_digit 21 = .ok (.bipush 90, 2) := by decide +kernel
theorem d_Mod_digit_23 : decode b_Mod_digit 23 = .ok (.invokestatic 41, 3) := by decide +kernel
theorem d_Mod_digit_26 : decode b_Mod_digit 26 = .ok (.ifCond .eq 10, 3) := by decide +kernel
theorem d_Mod_digit_29 : decode b_Mod_digit 29 = .ok (.iload_n 0, 1) := by decide +kernel
theorem d_Mod_digit_30 : decode b_Mod_digit 30 = .ok (.bipush 65, 2) := by decide +kernel
theorem d_Mod_digit_32 : decode b_Mod_digit 32 = .ok (.isub, 1) := by decide +kernel
theorem d_Mod_digit_33 : decode b_Mod_digit 33 = .ok (.goto 22, 3) := by decide +kernel
theorem d_Mod_digit_36 : decode b_Mod_digit 36 = .ok (.iload_n 0, 1) := by decide +kernel
theorem d_Mod_digit_37 : decode b_Mod_digit 37 = .ok (.bipush 48, 2) := by decide +kernel
theorem d_Mod_digit_39 : decode b_Mod_digit 39 = .ok (.bipush 57, 2) := by decide +kernel
theorem d_Mod_digit_41 : decode b_Mod_digit 41 = .ok (.invokestatic 41, 3) := by decide +kernel
theorem d_Mod_digit_44 : decode b_Mod_digit 44 = .ok (.ifCond .eq 10, 3) := by decide +kernel
theorem d_Mod_digit_47 : decode b_Mod_digit 47 = .ok (.iload_n 0, 1) := by decide +kernel
theorem d_Mod_digit_48 : decode b_Mod_digit 48 = .ok (.bipush 22, 2) := by decide +kernel
theorem d_Mod_digit_50 : decode b_Mod_digit 50 = .ok (.isub, 1) := by decide +kernel
theorem d_Mod_digit_51 : decode b_Mod_digit 51 = .ok (.goto 4, 3) := by decide +kernel
theorem d_Mod_digit_54 : decode b_Mod_digit 54 = .ok (.iconst (-1), 1) := by decide +kernel
theorem d_Mod_digit_55 : decode b_Mod_digit 55 = .ok (.ireturn, 1) := by decide +kernel
theorem d_Mod_unpackRow_0 : decode b_Mod_unpackRow 0 = .ok (.iload_n 1, 1) := by decide +kernel
theorem d_Mod_unpackRow_1 : decode b_Mod_unpackRow 1 = .ok (.iconst 1, 1) := by decide +kernel
theorem d_Mod_unpackRow_2 : decode b_Mod_unpackRow 2 = .ok (.isub, 1) := by decide +kernel
theorem d_Mod_unpackRow_3 : decode b_Mod_unpackRow 3 = .ok (.istore_n 2, 1) := by decide +kernel
theorem d_Mod_unpackRow_4 : decode b_Mod_unpackRow 4 = .ok (.iload_n 1, 1) := by decide +kernel
theorem d_Mod_unpackRow_5 : decode b_Mod_unpackRow 5 = .ok (.istore_n 3, 1) := by decide +kernel
theorem d_Mod_unpackRow_6 : decode b_Mod_unpackRow 6 = .ok (.iload_n 3, 1) := by decide +kernel
theorem d_Mod_unpackRow_7 : decode b_Mod_unpackRow 7 = .ok (.aload_n 0, 1) := by decide +kernel
theorem d_Mod_unpackRow_8 : decode b_Mod_unpackRow 8 = .ok (.getfield 64, 3) := by decide +kernel
theorem d_Mod_unpackRow_11 : decode b_Mod_unpackRow 11 = .ok (.if_icmp .ge 26, 3) := by decide +kernel
theorem d_Mod_unpackRow_14 : decode b_Mod_unpackRow 14 = .ok (.aload_n 0, 1) := by decide +kernel
theorem d_Mod_unpackRow_15 : decode b_Mod_unpackRow 15 = .ok (.getfield 16, 3) := by decide +kernel
theorem d_Mod_unpackRow_18 : decode b_Mod_unpackRow 18 = .ok (.iload_n 3, 1) := by decide +kernel
theorem d_Mod_unpackRow_19 : decode b_Mod_unpackRow 19 = .ok (.iaload, 1) := by decide +kernel
theorem d_Mod_unpackRow_20 : decode b_Mod_unpackRow 20 = .ok (.bipush 45, 2) := by decide +kernel
theorem d_Mod_unpackRow_22 : decode b_Mod_unpackRow 22 = .ok (.if_icmp .ne 7, 3) := by decide +kernel
theorem d_Mod_unpackRow_25 : decode b_Mod_unpackRow 25 = .ok (.iload_n 3, 1) := by decide +kernel
theorem d_Mod_unpackRow_26 : decode b_Mod_unpackRow 26 = .ok (.goto 4, 3) := by decide +kernel
theorem d_Mod_unpackRow_29 : decode b_Mod_unpackRow 29 = .ok (.iload_n 2, 1) := by decide +kernel
theorem d_Mod_unpackRow_30 : decode b_Mod_unpackRow 30 = .ok (.istore_n 2, 1) := by decide +kernel
theorem d_Mod_unpackRow_31 : decode b_Mod_unpackRow 31 = .ok (.iinc 3 1, 3) := by decide +kernel
theorem d_Mod_unpackRow_34 : decode b_Mod_unpackRow 34 = .ok (.goto (-28), 3) := by decide +kernel
theorem d_Mod_unpackRow_37 : decode b_Mod_unpackRow 37 = .ok (.iconst 0, 1) := by decide +kernel
theorem d_Mod_unpackRow_38 : decode b_Mod_unpackRow 38 = .ok (.istore_n 3, 1) := by decide +kernel
theorem d_Mod_unpackRow_39 : decode b_Mod_unpackRow 39 = .ok (.iload_n 1, 1) := by decide +kernel
theorem d_Mod_unpackRow_40 : decode b_Mod_unpackRow 40 = .ok (.istore 4, 2) := by decide +kernel
theorem d_Mod_unpackRow_42 : decode b_Mod_unpackRow 42 = .ok (.iload 4, 2) := by decide +kernel
theorem d_Mod_unpackRow_44 : decode b_Mod_unpackRow 44 = .ok (.iload_n 2, 1) := by decide +kernel
theorem d_Mod_unpackRow_45 : decode b_Mod_unpackRow 45 = .ok (.if_icmp .ge 45, 3) := by decide +kernel
theorem d_Mod_unpackRow_48 : decode b_Mod_unpackRow 48 = .ok (.aload_n 0, 1) := by decide +kernel
theorem d_Mod_unpackRow_49 : decode b_Mod_unpackRow 49 = .ok (.getfield 16, 3) := by decide +kernel
theorem d_Mod_unpackRow_52 : decode b_Mod_unpackRow 52 = .ok (.iload 4, 2) := by decide +kernel
theorem d_Mod_unpackRow_54 : decode b_Mod_unpackRow 54 = .ok (.iaload, 1) := by decide +kernel
theorem d_Mod_unpackRow_55 : decode b_Mod_unpackRow 55 = .ok (.bipush 127, 2) := by decide +kernel
theorem d_Mod_unpackRow_57 : decode b_Mod_unpackRow 57 = .ok (.if_icmp .gt 9, 3) := by decide +kernel
theorem d_Mod_unpackRow_60 : decode b_Mod_unpackRow 60 = .ok (.iload_n 3, 1) := by decide +kernel
theorem d_Mod_unpackRow_61 : decode b_Mod_unpackRow 61 = .ok (.bipush 48, 2) := by decide +kernel
theorem d_Mod_unpackRow_63 : decode b_Mod_unpackRow 63 = .ok (.if_icmp .ne 5, 3) := by decide +kernel
theorem d_Mod_unpackRow_66 : decode b_Mod_unpackRow 66 = .ok (.iconst 0, 1) := by decide +kernel
theorem d_Mod_unpackRow_67 : decode b_Mod_unpackRow 67 = .ok (.ireturn, 1) := by decide +kernel
theorem d_Mod_unpackRow_68 : decode b_Mod_unpackRow 68 = .ok (.aload_n 0, 1) := by decide +kernel
theorem d_Mod_unpackRow_69 : decode b_Mod_unpackRow 69 = .ok (.getfield 19, 3) := by decide +kernel
theorem d_Mod_unpackRow_72 : decode b_Mod_unpackRow 72 = .ok (.iload_n 3, 1) := by decide +kernel
theorem d_Mod_unpackRow_73 : decode b_Mod_unpackRow 73 = .ok (.aload_n 0, 1) := by decide +kernel
theorem d_Mod_unpackRow_74 : decode b_Mod_unpackRow 74 = .ok (.getfield 16, 3) := by decide +kernel
theorem d_Mod_unpackRow_77 : decode b_Mod_unpackRow 77 = .ok (.iload 4, 2) := by decide +kernel
theorem d_Mod_unpackRow_79 : decode b_Mod_unpackRow 79 = .ok (.iaload, 1) := by decide +kernel
theorem d_Mod_unpackRow_80 : decode b_Mod_unpackRow 80 = .ok (.iastore, 1) := by decide +kernel
theorem d_Mod_unpackRow_81 : decode b_Mod_unpackRow 81 = .ok (.iinc 3 1, 3) := by decide +kernel
theorem d_Mod_unpackRow_84 : decode b_Mod_unpackRow 84 = .ok (.iinc 4 1, 3) := by decide +kernel
theorem d_Mod_unpackRow_87 : decode b_Mod_unpackRow 87 = .ok (.goto (-45), 3) := by decide +kernel
theorem d_Mod_unpackRow_90 : decode b_Mod_unpackRow 90 = .ok (.aload_n 0, 1) := by decide +kernel
theorem d_Mod_unpackRow_91 : decode b_Mod_unpackRow 91 = .ok (.bipush 72, 2) := by decide +kernel
theorem d_Mod_unpackRow_93 : decode b_Mod_unpackRow 93 = .ok (.putfield 74, 3) := by decide +kernel
theorem d_Mod_unpackRow_96 : decode b_Mod_unpackRow 96 = .ok (.lconst 0, 1) := by decide +kernel
theorem d_Mod_unpackRow_97 : decode b_Mod_unpackRow 97 = .ok (.lstore 4, 2) := by decide +kernel
theorem d_Mod_unpackRow_99 : decode b_Mod_unpackRow 99 = .ok (.ldc2_w 101, 3) := by decide +kernel
theorem d_Mod_unpackRow_102 : decode b_Mod_unpackRow 102 = .ok (.lstore 6, 2) := by decide +kernel
theorem d_Mod_unpackRow_104 : decode b_Mod_unpackRow 104 = .ok (.iload_n 2, 1) := by decide +kernel
theorem d_Mod_unpackRow_105 : decode b_Mod_unpackRow 105 = .ok (.iconst 1, 1) := by decide +kernel
theorem d_Mod_unpackRow_106 : decode b_Mod_unpackRow 106 = .ok (.iadd, 1) := by decide +kernel
theorem d_Mod_unpackRow_107 : decode b_Mod_unpackRow 107 = .ok (.istore 8, 2) := by decide +kernel
theorem d_Mod_unpackRow_109 : decode b_Mod_unpackRow 109 = .ok (.iload 8, 2) := by decide +kernel
theorem d_Mod_unpackRow_111 : decode b_Mod_unpackRow 111 = .ok (.aload_n 0, 1) := by decide +kernel
theorem d_Mod_unpackRow_112 : decode b_Mod_unpackRow 112 = .ok (.getfield 64, 3) := by decide +kernel
theorem d_Mod_unpackRow_115 : decode b_Mod_unpackRow 115 = .ok (.if_icmp .ge 259, 3) := by decide +kernel
theorem d_Mod_unpackRow_118 : decode b_Mod_unpackRow 118 = .ok (.lload 4, 2) := by decide +kernel
theorem d_Mod_unpackRow_120 : decode b_Mod_unpackRow 120 = .ok (.lstore 9, 2) := by decide +kernel
theorem d_Mod_unpackRow_122 : decode b_Mod_unpackRow 122 = .ok (.lconst 1, 1) := by decide +kernel
theorem d_Mod_unpackRow_123 : decode b_Mod_unpackRow 123 = .ok (.lstore 11, 2) := by decide +kernel
theorem d_Mod_unpackRow_125 : decode b_Mod_unpackRow 125 = .ok (.bipush 36, 2) := by decide +kernel
theorem d_Mod_unpackRow_127 : decode b_Mod_unpackRow 127 = .ok (.istore 13, 2) := by decide +kernel
theorem d_Mod_unpackRow_129 : decode b_Mod_unpackRow 129 = .ok (.iconst 1, 1) := by decide +kernel
theorem d_Mod_unpackRow_130 : decode b_Mod_unpackRow 130 = .ok (.istore 14, 2) := by decide +kernel
theorem d_Mod_unpackRow_132 : decode b_Mod_unpackRow 132 = .ok (.iload 14, 2) := by decide +kernel
theorem d_Mod_unpackRow_134 : decode b_Mod_unpackRow 134 = .ok (.ifCond .eq 122, 3) := by decide +kernel
theorem d_Mod_unpackRow_137 : decode b_Mod_unpackRow 137 = .ok (.iload 8, 2) := by decide +kernel
theorem d_Mod_unpackRow_139 : decode b_Mod_unpackRow 139 = .ok (.aload_n 0, 1) := by decide +kernel
theorem d_Mod_unpackRow_140 : decode b_Mod_unpackRow 140 = .ok (.getfield 64, 3) := by decide +kernel
theorem d_Mod_unpackRow_143 : decode b_Mod_unpackRow 143 = .ok (.if_icmp .ge 16, 3) := by decide +kernel
theorem d_Mod_unpackRow_146 : decode b_Mod_unpackRow 146 = .ok (.aload_n 0, 1) := by decide +kernel
theorem d_Mod_unpackRow_147 : decode b_Mod_unpackRow 147 = .ok (.getfield 16, 3) := by decide +kernel
theorem d_Mod_unpackRow_150 : decode b_Mod_unpackRow 150 = .ok (.iload 8, 2) := by decide +kernel
theorem d_Mod_unpackRow_152 : decode b_Mod_unpackRow 152 = .ok (.iaload, 1) := by decide +kernel
theorem d_Mod_unpackRow_153 : decode b_Mod_unpackRow 153 = .ok (.invokestatic 103, 3) := by decide +kernel
theorem d_Mod_unpackRow_156 : decode b_Mod_unpackRow 156 = .ok (.goto 4, 3) := by decide +kernel
theorem d_Mod_unpackRow_159 : decode b_Mod_unpackRow 159 = .ok (.iconst (-1), 1) := by decide +kernel
theorem d_Mod_unpackRow_160 : decode b_Mod_unpackRow 160 = .ok (.istore 15, 2) := by decide +kernel
theorem d_Mod_unpackRow_162 : decode b_Mod_unpackRow 162 = .ok (.iload 15, 2) := by decide +kernel
theorem d_Mod_unpackRow_164 : decode b_Mod_unpackRow 164 = .ok (.ifCond .ge 5, 3) := by decide +kernel
theorem d_Mod_unpackRow_167 : decode b_Mod_unpackRow 167 = .ok (.iconst 0, 1) := by decide +kernel
theorem d_Mod_unpackRow_168 : decode b_Mod_unpackRow 168 = .ok (.ireturn, 1) := by decide +kernel
theorem d_Mod_unpackRow_169 : decode b_Mod_unpackRow 169 = .ok (.iinc 8 1, 3) := by decide +kernel
theorem d_Mod_unpackRow_172 : decode b_Mod_unpackRow 172 = .ok (.lload 4, 2) := by decide +kernel
theorem d_Mod_unpackRow_174 : decode b_Mod_unpackRow 174 = .ok (.iload 15, 2) := by decide +kernel
theorem d_Mod_unpackRow_176 : decode b_Mod_unpackRow 176 = .ok (.i2l, 1) := by decide +kernel
theorem d_Mod_unpackRow_177 : decode b_Mod_unpackRow 177 = .ok (.lload 11, 2) := by decide +kernel
theorem d_Mod_unpackRow_179 : decode b_Mod_unpackRow 179 = .ok (.lmul, 1) := by decide +kernel
theorem d_Mod_unpackRow_180 : decode b_Mod_unpackRow 180 = .ok (.ladd, 1) := by decide +kernel
theorem d_Mod_unpackRow_181 : decode b_Mod_unpackRow 181 = .ok (.lstore 4, 2) := by decide +kernel
theorem d_Mod_unpackRow_183 : decode b_Mod_unpackRow 183 = .ok (.aload_n 0, 1) := by decide +kernel
theorem d_Mod_unpackRow_184 : decode b_Mod_unpackRow 184 = .ok (.iload 13, 2) := by decide +kernel
theorem d_Mod_unpackRow_186 : decode b_Mod_unpackRow 186 = .ok (.invokevirtual 84, 3) := by decide +kernel
theorem d_Mod_unpackRow_189 : decode b_Mod_unpackRow 189 = .ok (.istore 16, 2) := by decide +kernel
theorem d_Mod_unpackRow_191 : decode b_Mod_unpackRow 191 = .ok (.iload 15, 2) := by decide +kernel
theorem d_Mod_unpackRow_193 : decode b_Mod_unpackRow 193 = .ok (.iload 16, 2) := by decide +kernel
theorem d_Mod_unpackRow_195 : decode b_Mod_unpackRow 195 = .ok (.if_icmp .lt 7, 3) := by decide +kernel
theorem d_Mod_unpackRow_198 : decode b_Mod_unpackRow 198 = .ok (.iconst 1, 1) := by decide +kernel
theorem d_Mod_unpackRow_199 : decode b_Mod_unpackRow 199 = .ok (.goto 4, 3) := by decide +kernel
theorem d_Mod_unpackRow_202 : decode b_Mod_unpackRow 202 = .ok (.iconst 0, 1) := by decide +kernel
theorem d_Mod_unpackRow_203 : decode b_Mod_unpackRow 203 = .ok (.istore 14, 2) := by decide +kernel
theorem d_Mod_unpackRow_205 : decode b_Mod_unpackRow 205 = .ok (.iload 14, 2) := by decide +kernel
theorem d_Mod_unpackRow_207 : decode b_Mod_unpackRow 207 = .ok (.ifCond .eq 15, 3) := by decide +kernel
theorem d_Mod_unpackRow_210 : decode b_Mod_unpackRow 210 = .ok (.lload 11, 2) := by decide +kernel
theorem d_Mod_unpackRow_212 : decode b_Mod_unpackRow 212 = .ok (.bipush 36, 2) := by decide +kernel
theorem d_Mod_unpackRow_214 : decode b_Mod_unpackRow 214 = .ok (.iload 16, 2) := by decide +kernel
theorem d_Mod_unpackRow_216 : decode b_Mod_unpackRow 216 = .ok (.isub, 1) := by decide +kernel
theorem d_Mod_unpackRow_217 : decode b_Mod_unpackRow 217 = .ok (.i2l, 1) := by decide +kernel
theorem d_Mod_unpackRow_218 : decode b_Mod_unpackRow 218 = .ok (.lmul, 1) := by decide +kernel
theorem d_Mod_unpackRow_219 : decode b_Mod_unpackRow 219 = .ok (.goto 5, 3) := by decide +kernel
theorem d_Mod_unpackRow_222 : decode b_Mod_unpackRow 222 = .ok (.lload 11, 2) := by decide +kernel
theorem d_Mod_unpackRow_224 : decode b_Mod_unpackRow 224 = .ok (.lstore 11, 2) := by decide +kernel
theorem d_Mod_unpackRow_226 : decode b_Mod_unpackRow 226 = .ok (.lload 4, 2) := by decide +kernel
theorem d_Mod_unpackRow_228 : decode b_Mod_unpackRow 228 = .ok (.ldc2_w 106, 3) := by decide +kernel
theorem d_Mod_unpackRow_231 : decode b_Mod_unpackRow 231 = .ok (.lcmp, 1) := by decide +kernel
theorem d_Mod_unpackRow_232 : decode b_Mod_unpackRow 232 = .ok (.ifCond .gt 12, 3) := by decide +kernel
theorem d_Mod_unpackRow_235 : decode b_Mod_unpackRow 235 = .ok (.lload 11, 2) := by decide +kernel
theorem d_Mod_unpackRow_237 : decode b_Mod_unpackRow 237 = .ok (.ldc2_w 106, 3) := by decide +kernel
theorem d_Mod_unpackRow_240 : decode b_Mod_unpackRow 240 = .ok (.lcmp, 1) := by decide +kernel
theorem d_Mod_unpackRow_241 : decode b_Mod_unpackRow 241 = .ok (.ifCond .le 5, 3) := by decide +kernel
theorem d_Mod_unpackRow_244 : decode b_Mod_unpackRow 244 = .ok (.iconst 0, 1) := by decide +kernel
theorem d_Mod_unpackRow_245 : decode b_Mod_unpackRow 245 = .ok (.ireturn, 1) := by decide +kernel
theorem d_Mod_unpackRow_246 : decode b_Mod_unpackRow 246 = .ok (.iload 13, 2) := by decide +kernel
theorem d_Mod_unpackRow_248 : decode b_Mod_unpackRow 248 = .ok (.bipush 36, 2) := by decide +kernel
theorem d_Mod_unpackRow_250 : decode b_Mod_unpackRow 250 = .ok (.iadd, 1) := by decide +kernel
theorem d_Mod_unpackRow_251 : decode b_Mod_unpackRow 251 = .ok (.istore 13, 2) := by decide +kernel
theorem d_Mod_unpackRow_253 : decode b_Mod_unpackRow 253 = .ok (.goto (-121), 3) := by decide +kernel
theorem d_Mod_unpackRow_256 : decode b_Mod_unpackRow 256 = .ok (.iload_n 3, 1) := by decide +kernel
theorem d_Mod_unpackRow_257 : decode b_Mod_unpackRow 257 = .ok (.bipush 48, 2) := by decide +kernel
theorem d_Mod_unpackRow_259 : decode b_Mod_unpackRow 259 = .ok (.if_icmp .ne 5, 3) := by decide +kernel
theorem d_Mod_unpackRow_262 : decode b_Mod_unpackRow 262 = .ok (.iconst 0, 1) := by decide +kernel
theorem d_Mod_unpackRow_263 : decode b_Mod_unpackRow 263 = .ok (.ireturn, 1) := by decide +kernel
theorem d_Mod_unpackRow_264 : decode b_Mod_unpackRow 264 = .ok (.iinc 3 1, 3) := by decide +kernel
theorem d_Mod_unpackRow_267 : decode b_Mod_unpackRow 267 = .ok (.aload_n 0, 1) := by decide +kernel
theorem d_Mod_unpackRow_268 : decode b_Mod_unpackRow 268 = .ok (.lload 4, 2) := by decide +kernel
theorem d_Mod_unpackRow_270 : decode b_Mod_unpackRow 270 = .ok (.lload 9, 2) := by decide +kernel
theorem d_Mod_unpackRow_272 : decode b_Mod_unpackRow 272 = .ok (.lsub, 1) := by decide +kernel
theorem d_Mod_unpackRow_273 : decode b_Mod_unpackRow 273 = .ok (.l2i, 1) := by decide +kernel
theorem d_Mod_unpackRow_274 : decode b_Mod_unpackRow 274 = .ok (.iload_n 3, 1) := by decide +kernel
theorem d_Mod_unpackRow_275 : decode b_Mod_unpackRow 275 = .ok (.lload 9, 2) := by decide +kernel
theorem d_Mod_unpackRow_277 : decode b_Mod_unpackRow 277 = .ok (.lconst 0, 1) := by decide +kernel
theorem d_Mod_unpackRow_278 : decode b_Mod_unpackRow 278 = .ok (.lcmp, 1) := by decide +kernel
theorem d_Mod_unpackRow_279 : decode b_Mod_unpackRow 279 = .ok (.ifCond .ne 7, 3) := by decide +kernel
theorem d_Mod_unpackRow_282 : decode b_Mod_unpackRow 282 = .ok (.iconst 1, 1) := by decide +kernel
theorem d_Mod_unpackRow_283 : decode b_Mod_unpackRow 283 = .ok (.goto 4, 3) := by decide +kernel
theorem d_Mod_unpackRow_286 : decode b_Mod_unpackRow 286 = .ok (.iconst 0, 1) := by decide +kernel
theorem d_Mod_unpackRow_287 : decode b_Mod_unpackRow 287 = .ok (.invokevirtual 97, 3) := by decide +kernel
theorem d_Mod_unpackRow_290 : decode b_Mod_unpackRow 290 = .ok (.lload 6, 2) := by decide +kernel
theorem d_Mod_unpackRow_292 : decode b_Mod_unpackRow 292 = .ok (.lload 4, 2) := by decide +kernel
theorem d_Mod_unpackRow_294 : decode b_Mod_unpackRow 294 = .ok (.iload_n 3, 1) := by decide +kernel
theorem d_Mod_unpackRow_295 : decode b_Mod_unpackRow 295 = .ok (.i2l, 1) := by decide +kernel
theorem d_Mod_unpackRow_296 : decode b_Mod_unpackRow 296 = .ok (.ldiv, 1) := by decide +kernel
theorem d_Mod_unpackRow_297 : decode b_Mod_unpackRow 297 = .ok (.ladd, 1) := by decide +kernel
theorem d_Mod_unpackRow_298 : decode b_Mod_unpackRow 298 = .ok (.lstore 6, 2) := by decide +kernel
theorem d_Mod_unpackRow_300 : decode b_Mod_unpackRow 300 = .ok (.lload 6, 2) := by decide +kernel
theorem d_Mod_unpackRow_302 : decode b_Mod_unpackRow 302 = .ok (.ldc2_w 108, 3) := by decide +kernel
theorem d_Mod_unpackRow_305 : decode b_Mod_unpackRow 305 = .ok (.lcmp, 1) := by decide +kernel
theorem d_Mod_unpackRow_306 : decode b_Mod_unpackRow 306 = .ok (.ifCond .le 5, 3) := by decide +kernel
theorem d_Mod_unpackRow_309 : decode b_Mod_unpackRow 309 = .ok (.iconst 0, 1) := by decide +kernel
theorem d_Mod_unpackRow_310 : decode b_Mod_unpackRow 310 = .ok (.ireturn, 1) := by decide +kernel
theorem d_Mod_unpackRow_311 : decode b_Mod_unpackRow 311 = .ok (.lload 4, 2) := by decide +kernel
theorem d_Mod_unpackRow_313 : decode b_Mod_unpackRow 313 = .ok (.iload_n 3, 1) := by decide +kernel
theorem d_Mod_unpackRow_314 : decode b_Mod_unpackRow 314 = .ok (.i2l, 1) := by decide +kernel
theorem d_Mod_unpackRow_315 : decode b_Mod_unpackRow 315 = .ok (.lrem, 1) := by decide +kernel
theorem d_Mod_unpackRow_316 : decode b_Mod_unpackRow 316 = .ok (.lstore 4, 2) := by decide +kernel
theorem d_Mod_unpackRow_318 : decode b_Mod_unpackRow 318 = .ok (.iload_n 3, 1) := by decide +kernel
theorem d_Mod_unpackRow_319 : decode b_Mod_unpackRow 319 = .ok (.iconst 1, 1) := by decide +kernel
theorem d_Mod_unpackRow_320 : decode b_Mod_unpackRow 320 = .ok (.isub, 1) := by decide +kernel
theorem d_Mod_unpackRow_321 : decode b_Mod_unpackRow 321 = .ok (.istore 15, 2) := by decide +kernel
theorem d_Mod_unpackRow_323 : decode b_Mod_unpackRow 323 = .ok (.iload 15, 2) := by decide +kernel
theorem d_Mod_unpackRow_325 : decode b_Mod_unpackRow 325 = .ok (.i2l, 1) := by decide +kernel
theorem d_Mod_unpackRow_326 : decode b_Mod_unpackRow 326 = .ok (.lload 4, 2) := by decide +kernel
theorem d_Mod_unpackRow_328 : decode b_Mod_unpackRow 328 = .ok (.lcmp, 1) := by decide +kernel
theorem d_Mod_unpackRow_329 : decode b_Mod_unpackRow 329 = .ok (.ifCond .le 25, 3) := by decide +kernel
theorem d_Mod_unpackRow_332 : decode b_Mod_unpackRow 332 = .ok (.aload_n 0, 1) := by decide +kernel
theorem d_Mod_unpackRow_333 : decode b_Mod_unpackRow 333 = .ok (.getfield 19, 3) := by decide +kernel
theorem d_Mod_unpackRow_336 : decode b_Mod_unpackRow 336 = .ok (.iload 15, 2) := by decide +kernel
theorem d_Mod_unpackRow_338 : decode b_Mod_unpackRow 338 = .ok (.aload_n 0, 1) := by decide +kernel
theorem d_Mod_unpackRow_339 : decode b_Mod_unpackRow 339 = .ok (.getfield 19, 3) := by decide +kernel
theorem d_Mod_unpackRow_342 : decode b_Mod_unpackRow 342 = .ok (.iload 15, 2) := by decide +kernel
theorem d_Mod_unpackRow_344 : decode b_Mod_unpackRow 344 = .ok (.iconst 1, 1) := by decide +kernel
theorem d_Mod_unpackRow_345 : decode b_Mod_unpackRow 345 = .ok (.isub, 1) := by decide +kernel
theorem d_Mod_unpackRow_346 : decode b_Mod_unpackRow 346 = .ok (.iaload, 1) := by decide +kernel
theorem d_Mod_unpackRow_347 : decode b_Mod_unpackRow 347 = .ok (.iastore, 1) := by decide +kernel
theorem d_Mod_unpackRow_348 : decode b_Mod_unpackRow 348 = .ok (.iinc 15 ( -1), 3) := by decide +kernel
theorem d_Mod_unpackRow_351 : decode b_Mod_unpackRow 351 = .ok (.goto (-28), 3) := by decide +kernel
theorem d_Mod_unpackRow_354 : decode b_Mod_unpackRow 354 = .ok (.aload_n 0, 1) := by decide +kernel
theorem d_Mod_unpackRow_355 : decode b_Mod_unpackRow 355 = .ok (.getfield 19, 3) := by decide +kernel
theorem d_Mod_unpackRow_358 : decode b_Mod_unpackRow 358 = .ok (.lload 4, 2) := by decide +kernel
theorem d_Mod_unpackRow_360 : decode b_Mod_unpackRow 360 = .ok (.l2i, 1) := by decide +kernel
theorem d_Mod_unpackRow_361 : decode b_Mod_unpackRow 361 = .ok (.lload 6, 2) := by decide +kernel
theorem d_Mod_unpackRow_363 : decode b_Mod_unpackRow 363 = .ok (.l2i, 1) := by decide +kernel
theorem d_Mod_unpackRow_364 : decode b_Mod_unpackRow 364 = .ok (.iastore, 1) := by decide +kernel
theorem d_Mod_unpackRow_365 : decode b_Mod_unpackRow 365 = .ok (.lload 4, 2) := by decide +kernel
theorem d_Mod_unpackRow_367 : decode b_Mod_unpackRow 367 = .ok (.lconst 1, 1) := by decide +kernel
theorem d_Mod_unpackRow_368 : decode b_Mod_unpackRow 368 = .ok (.ladd, 1) := by decide +kernel
theorem d_Mod_unpackRow_369 : decode b_Mod_unpackRow 369 = .ok (.lstore 4, 2) := by decide +kernel
theorem d_Mod_unpackRow_371 : decode b_Mod_unpackRow 371 = .ok (.goto (-262), 3) := by decide +kernel
theorem d_Mod_unpackRow_374 : decode b_Mod_unpackRow 374 = .ok (.iconst 0, 1) := by decide +kernel
theorem d_Mod_unpackRow_375 : decode b_Mod_unpackRow 375 = .ok (.istore 9, 2) := by decide +kernel
theorem d_Mod_unpackRow_377 : decode b_Mod_unpackRow 377 = .ok (.iload 9, 2) := by decide +kernel
theorem d_Mod_unpackRow_379 : decode b_Mod_unpackRow 379 = .ok (.iload_n 3, 1) := by decide +kernel
theorem d_Mod_unpackRow_380 : decode b_Mod_unpackRow 380 = .ok (.if_icmp .ge 23, 3) := by decide +kernel
theorem d_Mod_unpackRow_383 : decode b_Mod_unpackRow 383 = .ok (.aload_n 0, 1) := by decide +kernel
theorem d_Mod_unpackRow_384 : decode b_Mod_unpackRow 384 = .ok (.getfield 16, 3) := by decide +kernel
theorem d_Mod_unpackRow_387 : decode b_Mod_unpackRow 387 = .ok (.iload 9, 2) := by decide +kernel
theorem d_Mod_unpackRow_389 : decode b_Mod_unpackRow 389 = .ok (.aload_n 0, 1) := by decide +kernel
theorem d_Mod_unpackRow_390 : decode b_Mod_unpackRow 390 = .ok (.getfield 19, 3) := by decide +kernel
theorem d_Mod_unpackRow_393 : decode b_Mod_unpackRow 393 = .ok (.iload 9, 2) := by decide +kernel
theorem d_Mod_unpackRow_395 : decode b_Mod_unpackRow 395 = .ok (.iaload, 1) := by decide +kernel
theorem d_Mod_unpackRow_396 : decode b_Mod_unpackRow 396 = .ok (.iastore, 1) := by decide +kernel
theorem d_Mod_unpackRow_397 : decode b_Mod_unpackRow 397 = .ok (.iinc 9 1, 3) := by decide +kernel
theorem d_Mod_unpackRow_400 : decode b_Mod_unpackRow 400 = .ok (.goto (-23), 3) := by decide +kernel
theorem d_Mod_unpackRow_403 : decode b_Mod_unpackRow 403 = .ok (.aload_n 0, 1) := by decide +kernel
theorem d_Mod_unpackRow_404 : decode b_Mod_unpackRow 404 = .ok (.iload_n 3, 1) := by decide +kernel
theorem d_Mod_unpackRow_405 : decode b_Mod_unpackRow 405 = .ok (.putfield 64, 3) := by decide +kernel
theorem d_Mod_unpackRow_408 : decode b_Mod_unpackRow 408 = .ok (.iconst 1, 1) := by decide +kernel
theorem d_Mod_unpackRow_409 : decode b_Mod_unpackRow 409 = .ok (.ireturn, 1) := by decide +kernel
theorem d_Mod_put_0 : decode b_Mod_put 0 = .ok (.iload_n 1, 1) := by decide +kernel
theorem d_Mod_put_1 : decode b_Mod_put 1 = .ok (.iconst 0, 1) := by decide +kernel
theorem d_Mod_put_2 : decode b_Mod_put 2 = .ok (.ldc 110, 2) := by decide +kernel
theorem d_Mod_put_4 : decode b_Mod_put 4 = .ok (.invokestatic 41, 3) := by decide +kernel
theorem d_Mod_put_7 : decode b_Mod_put 7 = .ok (.ifCond .eq 23, 3) := by decide +kernel
theorem d_Mod_put_10 : decode b_Mod_put 10 = .ok (.iload_n 1, 1) := by decide +kernel
theorem d_Mod_put_11 : decode b_Mod_put 11 = .ok (.ldc 111, 2) := by decide +kernel
theorem d_Mod_put_13 : decode b_Mod_put 13 = .ok (.ldc 112, 2) := by decide +kernel
theorem d_Mod_put_15 : decode b_Mod_put 15 = .ok (.invokestatic 41, 3) := by decide +kernel
theorem d_Mod_put_18 : decode b_Mod_put 18 = .ok (.ifCond .ne 12, 3) := by decide +kernel
theorem d_Mod_put_21 : decode b_Mod_put 21 = .ok (.aload_n 0, 1) := by decide +kernel
theorem d_Mod_put_22 : decode b_Mod_put 22 = .ok (.getfield 113, 3) := by decide +kernel
theorem d_Mod_put_25 : decode b_Mod_put 25 = .ok (.bipush 48, 2) := by decide +kernel
theorem d_Mod_put_27 : decode b_Mod_put 27 = .ok (.if_icmp .ne 5, 3) := by decide +kernel
theorem d_Mod_put_30 : decode b_Mod_put 30 = .ok (.iconst 0, 1) := by decide +kernel
theorem d_Mod_put_31 : decode b_Mod_put 31 = .ok (.ireturn, 1) := by decide +kernel
theorem d_Mod_put_32 : decode b_Mod_put 32 = .ok (.aload_n 0, 1) := by decide +kernel
theorem d_Mod_put_33 : decode b_Mod_put 33 = .ok (.getfield 7, 3) := by decide +kernel
theorem d_Mod_put_36 : decode b_Mod_put 36 = .ok (.aload_n 0, 1) := by decide +kernel
theorem d_Mod_put_37 : decode b_Mod_put 37 = .ok (.getfield 113, 3) := by decide +kernel
theorem d_Mod_put_40 : decode b_Mod_put 40 = .ok (.iload_n 1, 1) := by decide +kernel
theorem d_Mod_put_41 : decode b_Mod_put 41 = .ok (.iastore, 1) := by decide +kernel
theorem d_Mod_put_42 : decode b_Mod_put 42 = .ok (.aload_n 0, 1) := by decide +kernel
theorem d_Mod_put_43 : decode b_Mod_put 43 = .ok (.dup, 1) := by decide +kernel
theorem d_Mod_put_44 : decode b_Mod_put 44 = .ok (.getfield 113, 3) := by decide +kernel
theorem d_Mod_put_47 : decode b_Mod_put 47 = .ok (.iconst 1, 1) := by decide +kernel
theorem d_Mod_put_48 : decode b_Mod_put 48 = .ok (.iadd, 1) := by decide +kernel
theorem d_Mod_put_49 : decode b_Mod_put 49 = .ok (.putfield 113, 3) := by decide +kernel
theorem d_Mod_put_52 : decode b_Mod_put 52 = .ok (.iconst 1, 1) := by decide +kernel
theorem d_Mod_put_53 : decode b_Mod_put 53 = .ok (.ireturn, 1) := by decide +kernel
theorem d_Mod_type_0 : decode b_Mod_type 0 = .ok (.iload_n 3, 1) := by decide +kernel
theorem d_Mod_type_1 : decode b_Mod_type 1 = .ok (.iconst 1, 1) := by decide +kernel
theorem d_Mod_type_2 : decode b_Mod_type 2 = .ok (.bipush 8, 2) := by decide +kernel
theorem d_Mod_type_4 : decode b_Mod_type 4 = .ok (.invokestatic 41, 3) := by decide +kernel
theorem d_Mod_type_7 : decode b_Mod_type 7 = .ok (.ifCond .eq 14, 3) := by decide +kernel
theorem d_Mod_type_10 : decode b_Mod_type 10 = .ok (.aload_n 0, 1) := by decide +kernel
theorem d_Mod_type_11 : decode b_Mod_type 11 = .ok (.getfield 113, 3) := by decide +kernel
theorem d_Mod_type_14 : decode b_Mod_type 14 = .ok (.iload_n 3, 1) := by decide +kernel
theorem d_Mod_type_15 : decode b_Mod_type 15 = .ok (.iadd, 1) := by decide +kernel
theorem d_Mod_type_16 : decode b_Mod_type 16 = .ok (.bipush 48, 2) := by decide +kernel
theorem d_Mod_type_18 : decode b_Mod_type 18 = .ok (.if_icmp .le 5, 3) := by decide +kernel
theorem d_Mod_type_21 : decode b_Mod_type 21 = .ok (.iconst 0, 1) := by decide +kernel
theorem d_Mod_type_22 : decode b_Mod_type 22 = .ok (.ireturn, 1) := by decide +kernel
theorem d_Mod_type_23 : decode b_Mod_type 23 = .ok (.iload_n 3, 1) := by decide +kernel
theorem d_Mod_type_24 : decode b_Mod_type 24 = .ok (.iconst 1, 1) := by decide +kernel
theorem d_Mod_type_25 : decode b_Mod_type 25 = .ok (.isub, 1) := by decide +kernel
theorem d_Mod_type_26 : decode b_Mod_type 26 = .ok (.istore 4, 2) := by decide +kernel
theorem d_Mod_type_28 : decode b_Mod_type 28 = .ok (.iload 4, 2) := by decide +kernel
theorem d_Mod_type_30 : decode b_Mod_type 30 = .ok (.ifCond .lt 40, 3) := by decide +kernel
theorem d_Mod_type_33 : decode b_Mod_type 33 = .ok (.aload_n 0, 1) := by decide +kernel
theorem d_Mod_type_34 : decode b_Mod_type 34 = .ok (.getfield 7, 3) := by decide +kernel
theorem d_Mod_type_37 : decode b_Mod_type 37 = .ok (.aload_n 0, 1) := by decide +kernel
theorem d_Mod_type_38 : decode b_Mod_type 38 = .ok (.getfield 113, 3) := by decide +kernel
theorem d_Mod_type_41 : decode b_Mod_type 41 = .ok (.lload_n 1, 1) := by decide +kernel
theorem d_Mod_type_42 : decode b_Mod_type 42 = .ok (.bipush 8, 2) := by decide +kernel
theorem d_Mod_type_44 : decode b_Mod_type 44 = .ok (.iload 4, 2) := by decide +kernel
theorem d_Mod_type_46 : decode b_Mod_type 46 = .ok (.imul, 1) := by decide +kernel
theorem d_Mod_type_47 : decode b_Mod_type 47 = .ok (.lshr, 1) := by decide +kernel
theorem d_Mod_type_48 : decode b_Mod_type 48 = .ok (.l2i, 1) := by decide +kernel
end
section
theorem d_Mod_type_49 : decode b_Mod_type 49 = .ok (.sipush 255, 3) := by decide +kernel
theorem d_Mod_type_52 : decode b_Mod_type 52 = .ok (.iand, 1) := by decide +kernel
theorem d_Mod_type_53 : decode b_Mod_type 53 = .ok (.iastore, 1) := by decide +kernel
theorem d_Mod_type_54 : decode b_Mod_type 54 = .ok (.aload_n 0, 1) := by decide +kernel
theorem d_Mod_type_55 : decode b_Mod_type 55 = .ok (.dup, 1) := by decide +kernel
theorem d_Mod_type_56 : decode b_Mod_type 56 = .ok (.getfield 113, 3) := by decide +kernel
theorem d_Mod_type_59 : decode b_Mod_type 59 = .ok (.iconst 1, 1) := by decide +kernel
theorem d_Mod_type_60 : decode b_Mod_type 60 = .ok (.iadd, 1) := by decide +kernel
theorem d_Mod_type_61 : decode b_Mod_type 61 = .ok (.putfield 113, 3) := by decide +kernel
theorem d_Mod_type_64 : decode b_Mod_type 64 = .ok (.iinc 4 ( -1), 3) := by decide +kernel
theorem d_Mod_type_67 : decode b_Mod_type 67 = .ok (.goto (-39), 3) := by decide +kernel
theorem d_Mod_type_70 : decode b_Mod_type 70 = .ok (.iconst 1, 1) := by decide +kernel
theorem d_Mod_type_71 : decode b_Mod_type 71 = .ok (.ireturn, 1) := by decide +kernel
theorem d_Mod_clear_0 : decode b_Mod_clear 0 = .ok (.aload_n 0, 1) := by decide +kernel
theorem d_Mod_clear_1 : decode b_Mod_clear 1 = .ok (.getfield 113, 3) := by decide +kernel
theorem d_Mod_clear_4 : decode b_Mod_clear 4 = .ok (.istore_n 1, 1) := by decide +kernel
theorem d_Mod_clear_5 : decode b_Mod_clear 5 = .ok (.aload_n 0, 1) := by decide +kernel
theorem d_Mod_clear_6 : decode b_Mod_clear 6 = .ok (.iconst 0, 1) := by decide +kernel
theorem d_Mod_clear_7 : decode b_Mod_clear 7 = .ok (.putfield 113, 3) := by decide +kernel
theorem d_Mod_clear_10 : decode b_Mod_clear 10 = .ok (.iload_n 1, 1) := by decide +kernel
theorem d_Mod_clear_11 : decode b_Mod_clear 11 = .ok (.ireturn, 1) := by decide +kernel
theorem d_Mod_takeText_0 : decode b_Mod_takeText 0 = .ok (.iconst 0, 1) := by decide +kernel
theorem d_Mod_takeText_1 : decode b_Mod_takeText 1 = .ok (.istore_n 1, 1) := by decide +kernel
theorem d_Mod_takeText_2 : decode b_Mod_takeText 2 = .ok (.iload_n 1, 1) := by decide +kernel
theorem d_Mod_takeText_3 : decode b_Mod_takeText 3 = .ok (.aload_n 0, 1) := by decide +kernel
theorem d_Mod_takeText_4 : decode b_Mod_takeText 4 = .ok (.getfield 113, 3) := by decide +kernel
theorem d_Mod_takeText_7 : decode b_Mod_takeText 7 = .ok (.if_icmp .ge 21, 3) := by decide +kernel
theorem d_Mod_takeText_10 : decode b_Mod_takeText 10 = .ok (.aload_n 0, 1) := by decide +kernel
theorem d_Mod_takeText_11 : decode b_Mod_takeText 11 = .ok (.getfield 16, 3) := by decide +kernel
theorem d_Mod_takeText_14 : decode b_Mod_takeText 14 = .ok (.iload_n 1, 1) := by decide +kernel
theorem d_Mod_takeText_15 : decode b_Mod_takeText 15 = .ok (.aload_n 0, 1) := by decide +kernel
theorem d_Mod_takeText_16 : decode b_Mod_takeText 16 = .ok (.getfield 7, 3) := by decide +kernel
theorem d_Mod_takeText_19 : decode b_Mod_takeText 19 = .ok (.iload_n 1, 1) := by decide +kernel
theorem d_Mod_takeText_20 : decode b_Mod_takeText 20 = .ok (.iaload, 1) := by decide +kernel
theorem d_Mod_takeText_21 : decode b_Mod_takeText 21 = .ok (.iastore, 1) := by decide +kernel
theorem d_Mod_takeText_22 : decode b_Mod_takeText 22 = .ok (.iinc 1 1, 3) := by decide +kernel
theorem d_Mod_takeText_25 : decode b_Mod_takeText 25 = .ok (.goto (-23), 3) := by decide +kernel
theorem d_Mod_takeText_28 : decode b_Mod_takeText 28 = .ok (.aload_n 0, 1) := by decide +kernel
theorem d_Mod_takeText_29 : decode b_Mod_takeText 29 = .ok (.aload_n 0, 1) := by decide +kernel
theorem d_Mod_takeText_30 : decode b_Mod_takeText 30 = .ok (.getfield 113, 3) := by decide +kernel
theorem d_Mod_takeText_33 : decode b_Mod_takeText 33 = .ok (.putfield 64, 3) := by decide +kernel
theorem d_Mod_takeText_36 : decode b_Mod_takeText 36 = .ok (.return_, 1) := by decide +kernel
theorem d_Mod_giveRow_0 : decode b_Mod_giveRow 0 = .ok (.iconst 0, 1) := by decide +kernel
theorem d_Mod_giveRow_1 : decode b_Mod_giveRow 1 = .ok (.istore_n 1, 1) := by decide +kernel
theorem d_Mod_giveRow_2 : decode b_Mod_giveRow 2 = .ok (.iload_n 1, 1) := by decide +kernel
theorem d_Mod_giveRow_3 : decode b_Mod_giveRow 3 = .ok (.aload_n 0, 1) := by decide +kernel
theorem d_Mod_giveRow_4 : decode b_Mod_giveRow 4 = .ok (.getfield 64, 3) := by decide +kernel
theorem d_Mod_giveRow_7 : decode b_Mod_giveRow 7 = .ok (.if_icmp .ge 21, 3) := by decide +kernel
theorem d_Mod_giveRow_10 : decode b_Mod_giveRow 10 = .ok (.aload_n 0, 1) := by decide +kernel
theorem d_Mod_giveRow_11 : decode b_Mod_giveRow 11 = .ok (.getfield 13, 3) := by decide +kernel
theorem d_Mod_giveRow_14 : decode b_Mod_giveRow 14 = .ok (.iload_n 1, 1) := by decide +kernel
theorem d_Mod_giveRow_15 : decode b_Mod_giveRow 15 = .ok (.aload_n 0, 1) := by decide +kernel
theorem d_Mod_giveRow_16 : decode b_Mod_giveRow 16 = .ok (.getfield 16, 3) := by decide +kernel
theorem d_Mod_giveRow_19 : decode b_Mod_giveRow 19 = .ok (.iload_n 1, 1) := by decide +kernel
theorem d_Mod_giveRow_20 : decode b_Mod_giveRow 20 = .ok (.iaload, 1) := by decide +kernel
theorem d_Mod_giveRow_21 : decode b_Mod_giveRow 21 = .ok (.iastore, 1) := by decide +kernel
theorem d_Mod_giveRow_22 : decode b_Mod_giveRow 22 = .ok (.iinc 1 1, 3) := by decide +kernel
theorem d_Mod_giveRow_25 : decode b_Mod_giveRow 25 = .ok (.goto (-23), 3) := by decide +kernel
theorem d_Mod_giveRow_28 : decode b_Mod_giveRow 28 = .ok (.aload_n 0, 1) := by decide +kernel
theorem d_Mod_giveRow_29 : decode b_Mod_giveRow 29 = .ok (.aload_n 0, 1) := by decide +kernel
theorem d_Mod_giveRow_30 : decode b_Mod_giveRow 30 = .ok (.getfield 64, 3) := by decide +kernel
theorem d_Mod_giveRow_33 : decode b_Mod_giveRow 33 = .ok (.putfield 77, 3) := by decide +kernel
theorem d_Mod_giveRow_36 : decode b_Mod_giveRow 36 = .ok (.return_, 1) := by decide +kernel
theorem d_Mod_on_0 : decode b_Mod_on 0 = .ok (.iload_n 0, 1) := by decide +kernel
theorem d_Mod_on_1 : decode b_Mod_on 1 = .ok (.iload_n 1, 1) := by decide +kernel
theorem d_Mod_on_2 : decode b_Mod_on 2 = .ok (.iand, 1) := by decide +kernel
theorem d_Mod_on_3 : decode b_Mod_on 3 = .ok (.ifCond .eq 7, 3) := by decide +kernel
theorem d_Mod_on_6 : decode b_Mod_on 6 = .ok (.iconst 1, 1) := by decide +kernel
theorem d_Mod_on_7 : decode b_Mod_on 7 = .ok (.goto 4, 3) := by decide +kernel
theorem d_Mod_on_10 : decode b_Mod_on 10 = .ok (.iconst 0, 1) := by decide +kernel
theorem d_Mod_on_11 : decode b_Mod_on 11 = .ok (.ireturn, 1) := by decide +kernel
theorem d_Mod_add_0 : decode b_Mod_add 0 = .ok (.aload_n 0, 1) := by decide +kernel
theorem d_Mod_add_1 : decode b_Mod_add 1 = .ok (.getfield 16, 3) := by decide +kernel
theorem d_Mod_add_4 : decode b_Mod_add 4 = .ok (.aload_n 0, 1) := by decide +kernel
theorem d_Mod_add_5 : decode b_Mod_add 5 = .ok (.getfield 64, 3) := by decide +kernel
theorem d_Mod_add_8 : decode b_Mod_add 8 = .ok (.iload_n 1, 1) := by decide +kernel
theorem d_Mod_add_9 : decode b_Mod_add 9 = .ok (.iastore, 1) := by decide +kernel
theorem d_Mod_add_10 : decode b_Mod_add 10 = .ok (.aload_n 0, 1) := by decide +kernel
theorem d_Mod_add_11 : decode b_Mod_add 11 = .ok (.dup, 1) := by decide +kernel
theorem d_Mod_add_12 : decode b_Mod_add 12 = .ok (.getfield 64, 3) := by decide +kernel
theorem d_Mod_add_15 : decode b_Mod_add 15 = .ok (.iconst 1, 1) := by decide +kernel
theorem d_Mod_add_16 : decode b_Mod_add 16 = .ok (.iadd, 1) := by decide +kernel
theorem d_Mod_add_17 : decode b_Mod_add 17 = .ok (.putfield 64, 3) := by decide +kernel
theorem d_Mod_add_20 : decode b_Mod_add 20 = .ok (.return_, 1) := by decide +kernel
theorem d_Mod_mapText_0 : decode b_Mod_mapText 0 = .ok (.aload_n 0, 1) := by decide +kernel
theorem d_Mod_mapText_1 : decode b_Mod_mapText 1 = .ok (.iconst 0, 1) := by decide +kernel
theorem d_Mod_mapText_2 : decode b_Mod_mapText 2 = .ok (.putfield 64, 3) := by decide +kernel
theorem d_Mod_mapText_5 : decode b_Mod_mapText 5 = .ok (.iconst 0, 1) := by decide +kernel
theorem d_Mod_mapText_6 : decode b_Mod_mapText 6 = .ok (.istore_n 2, 1) := by decide +kernel
theorem d_Mod_mapText_7 : decode b_Mod_mapText 7 = .ok (.iconst 0, 1) := by decide +kernel
theorem d_Mod_mapText_8 : decode b_Mod_mapText 8 = .ok (.istore_n 3, 1) := by decide +kernel
theorem d_Mod_mapText_9 : decode b_Mod_mapText 9 = .ok (.iload_n 3, 1) := by decide +kernel
theorem d_Mod_mapText_10 : decode b_Mod_mapText 10 = .ok (.aload_n 0, 1) := by decide +kernel
theorem d_Mod_mapText_11 : decode b_Mod_mapText 11 = .ok (.getfield 113, 3) := by decide +kernel
theorem d_Mod_mapText_14 : decode b_Mod_mapText 14 = .ok (.if_icmp .ge 207, 3) := by decide +kernel
theorem d_Mod_mapText_17 : decode b_Mod_mapText 17 = .ok (.aload_n 0, 1) := by decide +kernel
theorem d_Mod_mapText_18 : decode b_Mod_mapText 18 = .ok (.getfield 7, 3) := by decide +kernel
theorem d_Mod_mapText_21 : decode b_Mod_mapText 21 = .ok (.iload_n 3, 1) := by decide +kernel
theorem d_Mod_mapText_22 : decode b_Mod_mapText 22 = .ok (.iaload, 1) := by decide +kernel
theorem d_Mod_mapText_23 : decode b_Mod_mapText 23 = .ok (.istore 4, 2) := by decide +kernel
theorem d_Mod_mapText_25 : decode b_Mod_mapText 25 = .ok (.iload 4, 2) := by decide +kernel
theorem d_Mod_mapText_27 : decode b_Mod_mapText 27 = .ok (.invokestatic 116, 3) := by decide +kernel
theorem d_Mod_mapText_30 : decode b_Mod_mapText 30 = .ok (.ifCond .eq 15, 3) := by decide +kernel
theorem d_Mod_mapText_33 : decode b_Mod_mapText 33 = .ok (.iload_n 1, 1) := by decide +kernel
theorem d_Mod_mapText_34 : decode b_Mod_mapText 34 = .ok (.iconst 2, 1) := by decide +kernel
theorem d_Mod_mapText_35 : decode b_Mod_mapText 35 = .ok (.invokestatic 119, 3) := by decide +kernel
theorem d_Mod_mapText_38 : decode b_Mod_mapText 38 = .ok (.ifCond .eq 7, 3) := by decide +kernel
theorem d_Mod_mapText_41 : decode b_Mod_mapText 41 = .ok (.iconst 1, 1) := by decide +kernel
theorem d_Mod_mapText_42 : decode b_Mod_mapText 42 = .ok (.goto 4, 3) := by decide +kernel
theorem d_Mod_mapText_45 : decode b_Mod_mapText 45 = .ok (.iconst 0, 1) := by decide +kernel
theorem d_Mod_mapText_46 : decode b_Mod_mapText 46 = .ok (.istore 5, 2) := by decide +kernel
theorem d_Mod_mapText_48 : decode b_Mod_mapText 48 = .ok (.iload 4, 2) := by decide +kernel
theorem d_Mod_mapText_50 : decode b_Mod_mapText 50 = .ok (.invokestatic 123, 3) := by decide +kernel
theorem d_Mod_mapText_53 : decode b_Mod_mapText 53 = .ok (.istore 6, 2) := by decide +kernel
theorem d_Mod_mapText_55 : decode b_Mod_mapText 55 = .ok (.iload 5, 2) := by decide +kernel
theorem d_Mod_mapText_57 : decode b_Mod_mapText 57 = .ok (.ifCond .eq 26, 3) := by decide +kernel
theorem d_Mod_mapText_60 : decode b_Mod_mapText 60 = .ok (.iload 4, 2) := by decide +kernel
theorem d_Mod_mapText_62 : decode b_Mod_mapText 62 = .ok (.sipush 223, 3) := by decide +kernel
theorem d_Mod_mapText_65 : decode b_Mod_mapText 65 = .ok (.if_icmp .ne 18, 3) := by decide +kernel
theorem d_Mod_mapText_68 : decode b_Mod_mapText 68 = .ok (.aload_n 0, 1) := by decide +kernel
theorem d_Mod_mapText_69 : decode b_Mod_mapText 69 = .ok (.bipush 115, 2) := by decide +kernel
theorem d_Mod_mapText_71 : decode b_Mod_mapText 71 = .ok (.invokevirtual 126, 3) := by decide +kernel
theorem d_Mod_mapText_74 : decode b_Mod_mapText 74 = .ok (.aload_n 0, 1) := by decide +kernel
theorem d_Mod_mapText_75 : decode b_Mod_mapText 75 = .ok (.bipush 115, 2) := by decide +kernel
theorem d_Mod_mapText_77 : decode b_Mod_mapText 77 = .ok (.invokevirtual 126, 3) := by decide +kernel
theorem d_Mod_mapText_80 : decode b_Mod_mapText 80 = .ok (.goto 135, 3) := by decide +kernel
theorem d_Mod_mapText_83 : decode b_Mod_mapText 83 = .ok (.iload 5, 2) := by decide +kernel
theorem d_Mod_mapText_85 : decode b_Mod_mapText 85 = .ok (.ifCond .eq 21, 3) := by decide +kernel
theorem d_Mod_mapText_88 : decode b_Mod_mapText 88 = .ok (.iload 4, 2) := by decide +kernel
theorem d_Mod_mapText_90 : decode b_Mod_mapText 90 = .ok (.sipush 962, 3) := by decide +kernel
theorem d_Mod_mapText_93 : decode b_Mod_mapText 93 = .ok (.if_icmp .ne 13, 3) := by decide +kernel
theorem d_Mod_mapText_96 : decode b_Mod_mapText 96 = .ok (.aload_n 0, 1) := by decide +kernel
theorem d_Mod_mapText_97 : decode b_Mod_mapText 97 = .ok (.sipush 963, 3) := by decide +kernel
theorem d_Mod_mapText_100 : decode b_Mod_mapText 100 = .ok (.invokevirtual 126, 3) := by decide +kernel
theorem d_Mod_mapText_103 : decode b_Mod_mapText 103 = .ok (.goto 112, 3) := by decide +kernel
theorem d_Mod_mapText_106 : decode b_Mod_mapText 106 = .ok (.iload 6, 2) := by decide +kernel
theorem d_Mod_mapText_108 : decode b_Mod_mapText 108 = .ok (.ifCond .lt 38, 3) := by decide +kernel
theorem d_Mod_mapText_111 : decode b_Mod_mapText 111 = .ok (.aload_n 0, 1) := by decide +kernel
theorem d_Mod_mapText_112 : decode b_Mod_mapText 112 = .ok (.iload 6, 2) := by decide +kernel
theorem d_Mod_mapText_114 : decode b_Mod_mapText 114 = .ok (.invokevirtual 126, 3) := by decide +kernel
theorem d_Mod_mapText_117 : decode b_Mod_mapText 117 = .ok (.iload_n 2, 1) := by decide +kernel
theorem d_Mod_mapText_118 : decode b_Mod_mapText 118 = .ok (.ifCond .ne 19, 3) := by decide +kernel
theorem d_Mod_mapText_121 : decode b_Mod_mapText 121 = .ok (.iload 6, 2) := by decide +kernel
theorem d_Mod_mapText_123 : decode b_Mod_mapText 123 = .ok (.invokestatic 129, 3) := by decide +kernel
theorem d_Mod_mapText_126 : decode b_Mod_mapText 126 = .ok (.ifCond .eq 15, 3) := by decide +kernel
theorem d_Mod_mapText_129 : decode b_Mod_mapText 129 = .ok (.iload_n 1, 1) := by decide +kernel
theorem d_Mod_mapText_130 : decode b_Mod_mapText 130 = .ok (.iconst 1, 1) := by decide +kernel
theorem d_Mod_mapText_131 : decode b_Mod_mapText 131 = .ok (.invokestatic 119, 3) := by decide +kernel
theorem d_Mod_mapText_134 : decode b_Mod_mapText 134 = .ok (.ifCond .eq 7, 3) := by decide +kernel
theorem d_Mod_mapText_137 : decode b_Mod_mapText 137 = .ok (.iconst 1, 1) := by decide +kernel
theorem d_Mod_mapText_138 : decode b_Mod_mapText 138 = .ok (.goto 4, 3) := by decide +kernel
theorem d_Mod_mapText_141 : decode b_Mod_mapText 141 = .ok (.iconst 0, 1) := by decide +kernel
theorem d_Mod_mapText_142 : decode b_Mod_mapText 142 = .ok (.istore_n 2, 1) := by decide +kernel
theorem d_Mod_mapText_143 : decode b_Mod_mapText 143 = .ok (.goto 72, 3) := by decide +kernel
theorem d_Mod_mapText_146 : decode b_Mod_mapText 146 = .ok (.iload 5, 2) := by decide +kernel
theorem d_Mod_mapText_148 : decode b_Mod_mapText 148 = .ok (.ifCond .ne 67, 3) := by decide +kernel
theorem d_Mod_mapText_151 : decode b_Mod_mapText 151 = .ok (.iload 4, 2) := by decide +kernel
theorem d_Mod_mapText_153 : decode b_Mod_mapText 153 = .ok (.sipush 173, 3) := by decide +kernel
theorem d_Mod_mapText_156 : decode b_Mod_mapText 156 = .ok (.if_icmp .eq 59, 3) := by decide +kernel
theorem d_Mod_mapText_159 : decode b_Mod_mapText 159 = .ok (.aload_n 0, 1) := by decide +kernel
theorem d_Mod_mapText_160 : decode b_Mod_mapText 160 = .ok (.iload 4, 2) := by decide +kernel
theorem d_Mod_mapText_162 : decode b_Mod_mapText 162 = .ok (.invokevirtual 126, 3) := by decide +kernel
theorem d_Mod_mapText_165 : decode b_Mod_mapText 165 = .ok (.iload_n 2, 1) := by decide +kernel
theorem d_Mod_mapText_166 : decode b_Mod_mapText 166 = .ok (.ifCond .ne 43, 3) := by decide +kernel
theorem d_Mod_mapText_169 : decode b_Mod_mapText 169 = .ok (.iload 4, 2) := by decide +kernel
theorem d_Mod_mapText_171 : decode b_Mod_mapText 171 = .ok (.invokestatic 129, 3) := by decide +kernel
theorem d_Mod_mapText_174 : decode b_Mod_mapText 174 = .ok (.ifCond .eq 11, 3) := by decide +kernel
theorem d_Mod_mapText_177 : decode b_Mod_mapText 177 = .ok (.iload_n 1, 1) := by decide +kernel
theorem d_Mod_mapText_178 : decode b_Mod_mapText 178 = .ok (.iconst 1, 1) := by decide +kernel
theorem d_Mod_mapText_179 : decode b_Mod_mapText 179 = .ok (.invokestatic 119, 3) := by decide +kernel
theorem d_Mod_mapText_182 : decode b_Mod_mapText 182 = .ok (.ifCond .ne 27, 3) := by decide +kernel
theorem d_Mod_mapText_185 : decode b_Mod_mapText 185 = .ok (.iload 4, 2) := by decide +kernel
theorem d_Mod_mapText_187 : decode b_Mod_mapText 187 = .ok (.invokestatic 129, 3) := by decide +kernel
theorem d_Mod_mapText_190 : decode b_Mod_mapText 190 = .ok (.ifCond .ne 23, 3) := by decide +kernel
theorem d_Mod_mapText_193 : decode b_Mod_mapText 193 = .ok (.iload 4, 2) := by decide +kernel
theorem d_Mod_mapText_195 : decode b_Mod_mapText 195 = .ok (.invokestatic 50, 3) := by decide +kernel
theorem d_Mod_mapText_198 : decode b_Mod_mapText 198 = .ok (.ifCond .ne 15, 3) := by decide +kernel
theorem d_Mod_mapText_201 : decode b_Mod_mapText 201 = .ok (.iload 4, 2) := by decide +kernel
theorem d_Mod_mapText_203 : decode b_Mod_mapText 203 = .ok (.invokestatic 116, 3) := by decide +kernel
theorem d_Mod_mapText_206 : decode b_Mod_mapText 206 = .ok (.ifCond .ne 7, 3) := by decide +kernel
theorem d_Mod_mapText_209 : decode b_Mod_mapText 209 = .ok (.iconst 1, 1) := by decide +kernel
theorem d_Mod_mapText_210 : decode b_Mod_mapText 210 = .ok (.goto 4, 3) := by decide +kernel
theorem d_Mod_mapText_213 : decode b_Mod_mapText 213 = .ok (.iconst 0, 1) := by decide +kernel
theorem d_Mod_mapText_214 : decode b_Mod_mapText 214 = .ok (.istore_n 2, 1) := by decide +kernel
theorem d_Mod_mapText_215 : decode b_Mod_mapText 215 = .ok (.iinc 3 1, 3) := by decide +kernel
theorem d_Mod_mapText_218 : decode b_Mod_mapText 218 = .ok (.goto (-209), 3) := by decide +kernel
theorem d_Mod_mapText_221 : decode b_Mod_mapText 221 = .ok (.iload_n 2, 1) := by decide +kernel
theorem d_Mod_mapText_222 : decode b_Mod_mapText 222 = .ok (.ireturn, 1) := by decide +kernel
theorem d_Mod_hasTag_0 : decode b_Mod_hasTag 0 = .ok (.aload_n 0, 1) := by decide +kernel
theorem d_Mod_hasTag_1 : decode b_Mod_hasTag 1 = .ok (.getfield 64, 3) := by decide +kernel
theorem d_Mod_hasTag_4 : decode b_Mod_hasTag 4 = .ok (.iconst 3, 1) := by decide +kernel
theorem d_Mod_hasTag_5 : decode b_Mod_hasTag 5 = .ok (.if_icmp .le 51, 3) := by decide +kernel
theorem d_Mod_hasTag_8 : decode b_Mod_hasTag 8 = .ok (.aload_n 0, 1) := by decide +kernel
theorem d_Mod_hasTag_9 : decode b_Mod_hasTag 9 = .ok (.getfield 16, 3) := by decide +kernel
theorem d_Mod_hasTag_12 : decode b_Mod_hasTag 12 = .ok (.iconst 0, 1) := by decide +kernel
theorem d_Mod_hasTag_13 : decode b_Mod_hasTag 13 = .ok (.iaload, 1) := by decide +kernel
theorem d_Mod_hasTag_14 : decode b_Mod_hasTag 14 = .ok (.bipush 120, 2) := by decide +kernel
theorem d_Mod_hasTag_16 : decode b_Mod_hasTag 16 = .ok (.if_icmp .ne 40, 3) := by decide +kernel
theorem d_Mod_hasTag_19 : decode b_Mod_hasTag 19 = .ok (.aload_n 0, 1) := by decide +kernel
theorem d_Mod_hasTag_20 : decode b_Mod_hasTag 20 = .ok (.getfield 16, 3) := by decide +kernel
theorem d_Mod_hasTag_23 : decode b_Mod_hasTag 23 = .ok (.iconst 1, 1) := by decide +kernel
theorem d_Mod_hasTag_24 : decode b_Mod_hasTag 24 = .ok (.iaload, 1) := by decide +kernel
theorem d_Mod_hasTag_25 : decode b_Mod_hasTag 25 = .ok (.bipush 110, 2) := by decide +kernel
theorem d_Mod_hasTag_27 : decode b_Mod_hasTag 27 = .ok (.if_icmp .ne 29, 3) := by decide +kernel
theorem d_Mod_hasTag_30 : decode b_Mod_hasTag 30 = .ok (.aload_n 0, 1) := by decide +kernel
theorem d_Mod_hasTag_31 : decode b_Mod_hasTag 31 = .ok (.getfield 16, 3) := by decide +kernel
theorem d_Mod_hasTag_34 : decode b_Mod_hasTag 34 = .ok (.iconst 2, 1) := by decide +kernel
theorem d_Mod_hasTag_35 : decode b_Mod_hasTag 35 = .ok (.iaload, 1) := by decide +kernel
theorem d_Mod_hasTag_36 : decode b_Mod_hasTag 36 = .ok (.bipush 45, 2) := by decide +kernel
theorem d_Mod_hasTag_38 : decode b_Mod_hasTag 38 = .ok (.if_icmp .ne 18, 3) := by decide +kernel
theorem d_Mod_hasTag_41 : decode b_Mod_hasTag 41 = .ok (.aload_n 0, 1) := by decide +kernel
theorem d_Mod_hasTag_42 : decode b_Mod_hasTag 42 = .ok (.getfield 16, 3) := by decide +kernel
theorem d_Mod_hasTag_45 : decode b_Mod_hasTag 45 = .ok (.iconst 3, 1) := by decide +kernel
theorem d_Mod_hasTag_46 : decode b_Mod_hasTag 46 = .ok (.iaload, 1) := by decide +kernel
theorem d_Mod_hasTag_47 : decode b_Mod_hasTag 47 = .ok (.bipush 45, 2) := by decide +kernel
theorem d_Mod_hasTag_49 : decode b_Mod_hasTag 49 = .ok (.if_icmp .ne 7, 3) := by decide +kernel
theorem d_Mod_hasTag_52 : decode b_Mod_hasTag 52 = .ok (.iconst 1, 1) := by decide +kernel
theorem d_Mod_hasTag_53 : decode b_Mod_hasTag 53 = .ok (.goto 4, 3) := by decide +kernel
theorem d_Mod_hasTag_56 : decode b_Mod_hasTag 56 = .ok (.iconst 0, 1) := by decide +kernel
theorem d_Mod_hasTag_57 : decode b_Mod_hasTag 57 = .ok (.ireturn, 1) := by decide +kernel
theorem d_Mod_keep_0 : decode b_Mod_keep 0 = .ok (.aload_n 0, 1) := by decide +kernel
theorem d_Mod_keep_1 : decode b_Mod_keep 1 = .ok (.getfield 22, 3) := by decide +kernel
theorem d_Mod_keep_4 : decode b_Mod_keep 4 = .ok (.iload_n 1, 1) := by decide +kernel
theorem d_Mod_keep_5 : decode b_Mod_keep 5 = .ok (.aload_n 0, 1) := by decide +kernel
theorem d_Mod_keep_6 : decode b_Mod_keep 6 = .ok (.getfield 132, 3) := by decide +kernel
theorem d_Mod_keep_9 : decode b_Mod_keep 9 = .ok (.iastore, 1) := by decide +kernel
theorem d_Mod_keep_10 : decode b_Mod_keep 10 = .ok (.aload_n 0, 1) := by decide +kernel
theorem d_Mod_keep_11 : decode b_Mod_keep 11 = .ok (.getfield 25, 3) := by decide +kernel
theorem d_Mod_keep_14 : decode b_Mod_keep 14 = .ok (.iload_n 1, 1) := by decide +kernel
theorem d_Mod_keep_15 : decode b_Mod_keep 15 = .ok (.aload_n 0, 1) := by decide +kernel
theorem d_Mod_keep_16 : decode b_Mod_keep 16 = .ok (.getfield 64, 3) := by decide +kernel
theorem d_Mod_keep_19 : decode b_Mod_keep 19 = .ok (.iastore, 1) := by decide +kernel
theorem d_Mod_keep_20 : decode b_Mod_keep 20 = .ok (.iconst 0, 1) := by decide +kernel
theorem d_Mod_keep_21 : decode b_Mod_keep 21 = .ok (.istore_n 2, 1) := by decide +kernel
theorem d_Mod_keep_22 : decode b_Mod_keep 22 = .ok (.iload_n 2, 1) := by decide +kernel
theorem d_Mod_keep_23 : decode b_Mod_keep 23 = .ok (.aload_n 0, 1) := by decide +kernel
theorem d_Mod_keep_24 : decode b_Mod_keep 24 = .ok (.getfield 64, 3) := by decide +kernel
theorem d_Mod_keep_27 : decode b_Mod_keep 27 = .ok (.if_icmp .ge 34, 3) := by decide +kernel
theorem d_Mod_keep_30 : decode b_Mod_keep 30 = .ok (.aload_n 0, 1) := by decide +kernel
theorem d_Mod_keep_31 : decode b_Mod_keep 31 = .ok (.getfield 35, 3) := by decide +kernel
theorem d_Mod_keep_34 : decode b_Mod_keep 34 = .ok (.aload_n 0, 1) := by decide +kernel
theorem d_Mod_keep_35 : decode b_Mod_keep 35 = .ok (.getfield 132, 3) := by decide +kernel
theorem d_Mod_keep_38 : decode b_Mod_keep 38 = .ok (.aload_n 0, 1) := by decide +kernel
theorem d_Mod_keep_39 : decode b_Mod_keep 39 = .ok (.getfield 16, 3) := by decide +kernel
theorem d_Mod_keep_42 : decode b_Mod_keep 42 = .ok (.iload_n 2, 1) := by decide +kernel
theorem d_Mod_keep_43 : decode b_Mod_keep 43 = .ok (.iaload, 1) := by decide +kernel
theorem d_Mod_keep_44 : decode b_Mod_keep 44 = .ok (.iastore, 1) := by decide +kernel
theorem d_Mod_keep_45 : decode b_Mod_keep 45 = .ok (.aload_n 0, 1) := by decide +kernel
theorem d_Mod_keep_46 : decode b_Mod_keep 46 = .ok (.dup, 1) := by decide +kernel
theorem d_Mod_keep_47 : decode b_Mod_keep 47 = .ok (.getfield 132, 3) := by decide +kernel
theorem d_Mod_keep_50 : decode b_Mod_keep 50 = .ok (.iconst 1, 1) := by decide +kernel
theorem d_Mod_keep_51 : decode b_Mod_keep 51 = .ok (.iadd, 1) := by decide +kernel
theorem d_Mod_keep_52 : decode b_Mod_keep 52 = .ok (.putfield 132, 3) := by decide +kernel
theorem d_Mod_keep_55 : decode b_Mod_keep 55 = .ok (.iinc 2 1, 3) := by decide +kernel
theorem d_Mod_keep_58 : decode b_Mod_keep 58 = .ok (.goto (-36), 3) := by decide +kernel
theorem d_Mod_keep_61 : decode b_Mod_keep 61 = .ok (.return_, 1) := by decide +kernel
theorem d_Mod_fetch_0 : decode b_Mod_fetch 0 = .ok (.aload_n 0, 1) := by decide +kernel
theorem d_Mod_fetch_1 : decode b_Mod_fetch 1 = .ok (.aload_n 0, 1) := by decide +kernel
theorem d_Mod_fetch_2 : decode b_Mod_fetch 2 = .ok (.getfield 25, 3) := by decide +kernel
theorem d_Mod_fetch_5 : decode b_Mod_fetch 5 = .ok (.iload_n 1, 1) := by decide +kernel
theorem d_Mod_fetch_6 : decode b_Mod_fetch 6 = .ok (.iaload, 1) := by decide +kernel
theorem d_Mod_fetch_7 : decode b_Mod_fetch 7 = .ok (.putfield 64, 3) := by decide +kernel
theorem d_Mod_fetch_10 : decode b_Mod_fetch 10 = .ok (.iconst 0, 1) := by decide +kernel
theorem d_Mod_fetch_11 : decode b_Mod_fetch 11 = .ok (.istore_n 2, 1) := by decide +kernel
theorem d_Mod_fetch_12 : decode b_Mod_fetch 12 = .ok (.iload_n 2, 1) := by decide +kernel
theorem d_Mod_fetch_13 : decode b_Mod_fetch 13 = .ok (.aload_n 0, 1) := by decide +kernel
theorem d_Mod_fetch_14 : decode b_Mod_fetch 14 = .ok (.getfield 64, 3) := by decide +kernel
theorem d_Mod_fetch_17 : decode b_Mod_fetch 17 = .ok (.if_icmp .ge 28, 3) := by decide +kernel
theorem d_Mod_fetch_20 : decode b_Mod_fetch 20 = .ok (.aload_n 0, 1) := by decide +kernel
theorem d_Mod_fetch_21 : decode b_Mod_fetch 21 = .ok (.getfield 16, 3) := by decide +kernel
theorem d_Mod_fetch_24 : decode b_Mod_fetch 24 = .ok (.iload_n 2, 1) := by decide +kernel
theorem d_Mod_fetch_25 : decode b_Mod_fetch 25 = .ok (.aload_n 0, 1) := by decide +kernel
theorem d_Mod_fetch_26 : decode b_Mod_fetch 26 = .ok (.getfield 35, 3) := by decide +kernel
theorem d_Mod_fetch_29 : decode b_Mod_fetch 29 = .ok (.aload_n 0, 1) := by decide +kernel
theorem d_Mod_fetch_30 : decode b_Mod_fetch 30 = .ok (.getfield 22, 3) := by decide +kernel
theorem d_Mod_fetch_33 : decode b_Mod_fetch 33 = .ok (.iload_n 1, 1) := by decide +kernel
theorem d_Mod_fetch_34 : decode b_Mod_fetch 34 = .ok (.iaload, 1) := by decide +kernel
theorem d_Mod_fetch_35 : decode b_Mod_fetch 35 = .ok (.iload_n 2, 1) := by decide +kernel
theorem d_Mod_fetch_36 : decode b_Mod_fetch 36 = .ok (.iadd, 1) := by decide +kernel
theorem d_Mod_fetch_37 : decode b_Mod_fetch 37 = .ok (.iaload, 1) := by decide +kernel
theorem d_Mod_fetch_38 : decode b_Mod_fetch 38 = .ok (.iastore, 1) := by decide +kernel
theorem d_Mod_fetch_39 : decode b_Mod_fetch 39 = .ok (.iinc 2 1, 3) := by decide +kernel
theorem d_Mod_fetch_42 : decode b_Mod_fetch 42 = .ok (.goto (-30), 3) := by decide +kernel
theorem d_Mod_fetch_45 : decode b_Mod_fetch 45 = .ok (.return_, 1) := by decide +kernel
theorem d_Mod_cut_0 : decode b_Mod_cut 0 = .ok (.aload_n 0, 1) := by decide +kernel
theorem d_Mod_cut_1 : decode b_Mod_cut 1 = .ok (.iconst 0, 1) := by decide +kernel
theorem d_Mod_cut_2 : decode b_Mod_cut 2 = .ok (.putfield 135, 3) := by decide +kernel
theorem d_Mod_cut_5 : decode b_Mod_cut 5 = .ok (.aload_n 0, 1) := by decide +kernel
theorem d_Mod_cut_6 : decode b_Mod_cut 6 = .ok (.iconst 0, 1) := by decide +kernel
theorem d_Mod_cut_7 : decode b_Mod_cut 7 = .ok (.putfield 132, 3) := by decide +kernel
theorem d_Mod_cut_10 : decode b_Mod_cut 10 = .ok (.aload_n 0, 1) := by decide +kernel
theorem d_Mod_cut_11 : decode b_Mod_cut 11 = .ok (.getfield 22, 3) := by decide +kernel
theorem d_Mod_cut_14 : decode b_Mod_cut 14 = .ok (.iconst 0, 1) := by decide +kernel
theorem d_Mod_cut_15 : decode b_Mod_cut 15 = .ok (.iconst 0, 1) := by decide +kernel
theorem d_Mod_cut_16 : decode b_Mod_cut 16 = .ok (.iastore, 1) := by decide +kernel
theorem d_Mod_cut_17 : decode b_Mod_cut 17 = .ok (.aload_n 0, 1) := by decide +kernel
theorem d_Mod_cut_18 : decode b_Mod_cut 18 = .ok (.getfield 25, 3) := by decide +kernel
theorem d_Mod_cut_21 : decode b_Mod_cut 21 = .ok (.iconst 0, 1) := by decide +kernel
theorem d_Mod_cut_22 : decode b_Mod_cut 22 = .ok (.iconst 0, 1) := by decide +kernel
theorem d_Mod_cut_23 : decode b_Mod_cut 23 = .ok (.iastore, 1) := by decide +kernel
theorem d_Mod_cut_24 : decode b_Mod_cut 24 = .ok (.iconst 0, 1) := by decide +kernel
theorem d_Mod_cut_25 : decode b_Mod_cut 25 = .ok (.istore_n 1, 1) := by decide +kernel
theorem d_Mod_cut_26 : decode b_Mod_cut 26 = .ok (.iload_n 1, 1) := by decide +kernel
theorem d_Mod_cut_27 : decode b_Mod_cut 27 = .ok (.aload_n 0, 1) := by decide +kernel
theorem d_Mod_cut_28 : decode b_Mod_cut 28 = .ok (.getfield 64, 3) := by decide +kernel
theorem d_Mod_cut_31 : decode b_Mod_cut 31 = .ok (.if_icmp .ge 101, 3) := by decide +kernel
theorem d_Mod_cut_34 : decode b_Mod_cut 34 = .ok (.aload_n 0, 1) := by decide +kernel
theorem d_Mod_cut_35 : decode b_Mod_cut 35 = .ok (.getfield 16, 3) := by decide +kernel
theorem d_Mod_cut_38 : decode b_Mod_cut 38 = .ok (.iload_n 1, 1) := by decide +kernel
theorem d_Mod_cut_39 : decode b_Mod_cut 39 = .ok (.iaload, 1) := by decide +kernel
theorem d_Mod_cut_40 : decode b_Mod_cut 40 = .ok (.bipush 46, 2) := by decide +kernel
theorem d_Mod_cut_42 : decode b_Mod_cut 42 = .ok (.if_icmp .ne 39, 3) := by decide +kernel
theorem d_Mod_cut_45 : decode b_Mod_cut 45 = .ok (.aload_n 0, 1) := by decide +kernel
theorem d_Mod_cut_46 : decode b_Mod_cut 46 = .ok (.dup, 1) := by decide +kernel
theorem d_Mod_cut_47 : decode b_Mod_cut 47 = .ok (.getfield 135, 3) := by decide +kernel
theorem d_Mod_cut_50 : decode b_Mod_cut 50 = .ok (.iconst 1, 1) := by decide +kernel
theorem d_Mod_cut_51 : decode b_Mod_cut 51 = .ok (.iadd, 1) := by decide +kernel
theorem d_Mod_cut_52 : decode b_Mod_cut 52 = .ok (.putfield 135, 3) := by decide +kernel
theorem d_Mod_cut_55 : decode b_Mod_cut 55 = .ok (.aload_n 0, 1) := by decide +kernel
theorem d_Mod_cut_56 : decode b_Mod_cut 56 = .ok (.getfield 22, 3) := by decide +kernel
theorem d_Mod_cut_59 : decode b_Mod_cut 59 = .ok (.aload_n 0, 1) := by decide +kernel
theorem d_Mod_cut_60 : decode b_Mod_cut 60 = .ok (.getfield 135, 3) := by decide +kernel
theorem d_Mod_cut_63 : decode b_Mod_cut 63 = .ok (.aload_n 0, 1) := by decide +kernel
theorem d_Mod_cut_64 : decode b_Mod_cut 64 = .ok (.getfield 132, 3) := by decide +kernel
theorem d_Mod_cut_67 : decode b_Mod_cut 67 = .ok (.iastore, 1) := by decide +kernel
theorem d_Mod_cut_68 : decode b_Mod_cut 68 = .ok (.aload_n 0, 1) := by decide +kernel
theorem d_Mod_cut_69 : decode b_Mod_cut 69 = .ok (.getfield 25, 3) := by decide +kernel
theorem d_Mod_cut_72 : decode b_Mod_cut 72 = .ok (.aload_n 0, 1) := by decide +kernel
theorem d_Mod_cut_73 : decode b_Mod_cut 73 = .ok (.getfield 135, 3) := by decide +kernel
theorem d_Mod_cut_76 : decode b_Mod_cut 76 = .ok (.iconst 0, 1) := by decide +kernel
theorem d_Mod_cut_77 : decode b_Mod_cut 77 = .ok (.iastore, 1) := by decide +kernel
theorem d_Mod_cut_78 : decode b_Mod_cut 78 = .ok (.goto 48, 3) := by decide +kernel
theorem d_Mod_cut_81 : decode b_Mod_cut 81 = .ok (.aload_n 0, 1) := by decide +kernel
theorem d_Mod_cut_82 : decode b_Mod_cut 82 = .ok (.getfield 35, 3) := by decide +kernel
theorem d_Mod_cut_85 : decode b_Mod_cut 85 = .ok (.aload_n 0, 1) := by decide +kernel
theorem d_Mod_cut_86 : decode b_Mod_cut 86 = .ok (.getfield 132, 3) := by decide +kernel
theorem d_Mod_cut_89 : decode b_Mod_cut 89 = .ok (.aload_n 0, 1) := by decide +kernel
theorem d_Mod_cut_90 : decode b_Mod_cut 90 = .ok (.getfield 16, 3) := by decide +kernel
theorem d_Mod_cut_93 : decode b_Mod_cut 93 = .ok (.iload_n 1, 1) := by decide +kernel
theorem d_Mod_cut_94 : decode b_Mod_cut 94 = .ok (.iaload, 1) := by decide +kernel
theorem d_Mod_cut_95 : decode b_Mod_cut 95 = .ok (.iastore, 1) := by decide +kernel
theorem d_Mod_cut_96 : decode b_Mod_cut 96 = .ok (.aload_n 0, 1) := by decide +kernel
theorem d_Mod_cut_97 : decode b_Mod_cut 97 = .ok (.dup, 1) := by decide +kernel
theorem d_Mod_cut_98 : decode b_Mod_cut 98 = .ok (.getfield 132, 3) := by decide +kernel
theorem d_Mod_cut_101 : decode b_Mod_cut 101 = .ok (.iconst 1, 1) := by decide +kernel
theorem d_Mod_cut_102 : decode b_Mod_cut 102 = .ok (.iadd, 1) := by decide +kernel
theorem d_Mod_cut_103 : decode b_Mod_cut 103 = .ok (.putfield 132, 3) := by decide +kernel
theorem d_Mod_cut_106 : decode b_Mod_cut 106 = .ok (.aload_n 0, 1) := by decide +kernel
theorem d_Mod_cut_107 : decode b_Mod_cut 107 = .ok (.getfield 25, 3) := by decide +kernel
theorem d_Mod_cut_110 : decode b_Mod_cut 110 = .ok (.aload_n 0, 1) := by decide +kernel
theorem d_Mod_cut_111 : decode b_Mod_cut 111 = .ok (.getfield 135, 3) := by decide +kernel
theorem d_Mod_cut_114 : decode b_Mod_cut 114 = .ok (.aload_n 0, 1) := by decide +kernel
theorem d_Mod_cut_115 : decode b_Mod_cut 115 = .ok (.getfield 25, 3) := by decide +kernel
theorem d_Mod_cut_118 : decode b_Mod_cut 118 = .ok (.aload_n 0, 1) := by decide +kernel
theorem d_Mod_cut_119 : decode b_Mod_cut 119 = .ok (.getfield 135, 3) := by decide +kernel
theorem d_Mod_cut_122 : decode b_Mod_cut 122 = .ok (.iaload, 1) := by decide +kernel
theorem d_Mod_cut_123 : decode b_Mod_cut 123 = .ok (.iconst 1, 1) := by decide +kernel
theorem d_Mod_cut_124 : decode b_Mod_cut 124 = .ok (.iadd, 1) := by decide +kernel
theorem d_Mod_cut_125 : decode b_Mod_cut 125 = .ok (.iastore, 1) := by decide +kernel
theorem d_Mod_cut_126 : decode b_Mod_cut 126 = .ok (.iinc 1 1, 3) := by decide +kernel
theorem d_Mod_cut_129 : decode b_Mod_cut 129 = .ok (.goto (-103), 3) := by decide +kernel
theorem d_Mod_cut_132 : decode b_Mod_cut 132 = .ok (.aload_n 0, 1) := by decide +kernel
theorem d_Mod_cut_133 : decode b_Mod_cut 133 = .ok (.dup, 1) := by decide +kernel
theorem d_Mod_cut_134 : decode b_Mod_cut 134 = .ok (.getfield 135, 3) := by decide +kernel
theorem d_Mod_cut_137 : decode b_Mod_cut 137 = .ok (.iconst 1, 1) := by decide +kernel
theorem d_Mod_cut_138 : decode b_Mod_cut 138 = .ok (.iadd, 1) := by decide +kernel
theorem d_Mod_cut_139 : decode b_Mod_cut 139 = .ok (.putfield 135, 3) := by decide +kernel
theorem d_Mod_cut_142 : decode b_Mod_cut 142 = .ok (.return_, 1) := by decide +kernel
theorem d_Mod_open_0 : decode b_Mod_open 0 = .ok (.aload_n 0, 1) := by decide +kernel
theorem d_Mod_open_1 : decode b_Mod_open 1 = .ok (.iload_n 1, 1) := by decide +kernel
theorem d_Mod_open_2 : decode b_Mod_open 2 = .ok (.invokevirtual 138, 3) := by decide +kernel
theorem d_Mod_open_5 : decode b_Mod_open 5 = .ok (.aload_n 0, 1) := by decide +kernel
theorem d_Mod_open_6 : decode b_Mod_open 6 = .ok (.getfield 28, 3) := by decide +kernel
theorem d_Mod_open_9 : decode b_Mod_open 9 = .ok (.iload_n 1, 1) := by decide +kernel
theorem d_Mod_open_10 : decode b_Mod_open 10 = .ok (.iconst 0, 1) := by decide +kernel
theorem d_Mod_open_11 : decode b_Mod_open 11 = .ok (.iastore, 1) := by decide +kernel
theorem d_Mod_open_12 : decode b_Mod_open 12 = .ok (.aload_n 0, 1) := by decide +kernel
theorem d_Mod_open_13 : decode b_Mod_open 13 = .ok (.getfield 31, 3) := by decide +kernel
theorem d_Mod_open_16 : decode b_Mod_open 16 = .ok (.iload_n 1, 1) := by decide +kernel
theorem d_Mod_open_17 : decode b_Mod_open 17 = .ok (.aload_n 0, 1) := by decide +kernel
theorem d_Mod_open_18 : decode b_Mod_open 18 = .ok (.invokevirtual 141, 3) := by decide +kernel
theorem d_Mod_open_21 : decode b_Mod_open 21 = .ok (.bastore, 1) := by decide +kernel
theorem d_Mod_open_22 : decode b_Mod_open 22 = .ok (.aload_n 0, 1) := by decide +kernel
theorem d_Mod_open_23 : decode b_Mod_open 23 = .ok (.getfield 31, 3) := by decide +kernel
theorem d_Mod_open_26 : decode b_Mod_open 26 = .ok (.iload_n 1, 1) := by decide +kernel
theorem d_Mod_open_27 : decode b_Mod_open 27 = .ok (.baload, 1) := by decide +kernel
theorem d_Mod_open_28 : decode b_Mod_open 28 = .ok (.ifCond .ne 4, 3) := by decide +kernel
theorem d_Mod_open_31 : decode b_Mod_open 31 = .ok (.return_, 1) := by decide +kernel
theorem d_Mod_open_32 : decode b_Mod_open 32 = .ok (.aload_n 0, 1) := by decide +kernel
theorem d_Mod_open_33 : decode b_Mod_open 33 = .ok (.iconst 4, 1) := by decide +kernel
theorem d_Mod_open_34 : decode b_Mod_open 34 = .ok (.invokevirtual 145, 3) := by decide +kernel
theorem d_Mod_open_37 : decode b_Mod_open 37 = .ok (.istore_n 2, 1) := by decide +kernel
theorem d_Mod_open_38 : decode b_Mod_open 38 = .ok (.iconst 0, 1) := by decide +kernel
theorem d_Mod_open_39 : decode b_Mod_open 39 = .ok (.istore_n 3, 1) := by decide +kernel
theorem d_Mod_open_40 : decode b_Mod_open 40 = .ok (.iconst 0, 1) := by decide +kernel
theorem d_Mod_open_41 : decode b_Mod_open 41 = .ok (.istore 4, 2) := by decide +kernel
theorem d_Mod_open_43 : decode b_Mod_open 43 = .ok (.iload 4, 2) := by decide +kernel
theorem d_Mod_open_45 : decode b_Mod_open 45 = .ok (.aload_n 0, 1) := by decide +kernel
theorem d_Mod_open_46 : decode b_Mod_open 46 = .ok (.getfield 64, 3) := by decide +kernel
theorem d_Mod_open_49 : decode b_Mod_open 49 = .ok (.if_icmp .ge 35, 3) := by decide +kernel
theorem d_Mod_open_52 : decode b_Mod_open 52 = .ok (.iload_n 2, 1) := by decide +kernel
theorem d_Mod_open_53 : decode b_Mod_open 53 = .ok (.ifCond .eq 31, 3) := by decide +kernel
theorem d_Mod_open_56 : decode b_Mod_open 56 = .ok (.iload_n 3, 1) := by decide +kernel
theorem d_Mod_open_57 : decode b_Mod_open 57 = .ok (.ifCond .ne 15, 3) := by decide +kernel
theorem d_Mod_open_60 : decode b_Mod_open 60 = .ok (.aload_n 0, 1) := by decide +kernel
theorem d_Mod_open_61 : decode b_Mod_open 61 = .ok (.getfield 16, 3) := by decide +kernel
theorem d_Mod_open_64 : decode b_Mod_open 64 = .ok (.iload 4, 2) := by decide +kernel
theorem d_Mod_open_66 : decode b_Mod_open 66 = .ok (.iaload, 1) := by decide +kernel
theorem d_Mod_open_67 : decode b_Mod_open 67 = .ok (.bipush 127, 2) := by decide +kernel
theorem d_Mod_open_69 : decode b_Mod_open 69 = .ok (.if_icmp .le 7, 3) := by decide +kernel
theorem d_Mod_open_72 : decode b_Mod_open 72 = .ok (.iconst 1, 1) := by decide +kernel
theorem d_Mod_open_73 : decode b_Mod_open 73 = .ok (.goto 4, 3) := by decide +kernel
theorem d_Mod_open_76 : decode b_Mod_open 76 = .ok (.iconst 0, 1) := by decide +kernel
theorem d_Mod_open_77 : decode b_Mod_open 77 = .ok (.istore_n 3, 1) := by decide +kernel
theorem d_Mod_open_78 : decode b_Mod_open 78 = .ok (.iinc 4 1, 3) := by decide +kernel
theorem d_Mod_open_81 : decode b_Mod_open 81 = .ok (.goto (-38), 3) := by decide +kernel
theorem d_Mod_open_84 : decode b_Mod_open 84 = .ok (.iload_n 2, 1) := by decide +kernel
theorem d_Mod_open_85 : decode b_Mod_open 85 = .ok (.ifCond .eq 15, 3) := by decide +kernel
theorem d_Mod_open_88 : decode b_Mod_open 88 = .ok (.iload_n 3, 1) := by decide +kernel
theorem d_Mod_open_89 : decode b_Mod_open 89 = .ok (.ifCond .eq 11, 3) := by decide +kernel
theorem d_Mod_open_92 : decode b_Mod_open 92 = .ok (.aload_n 0, 1) := by decide +kernel
theorem d_Mod_open_93 : decode b_Mod_open 93 = .ok (.iload_n 1, 1) := by decide +kernel
theorem d_Mod_open_94 : decode b_Mod_open 94 = .ok (.invokevirtual 148, 3) := by decide +kernel
theorem d_Mod_open_97 : decode b_Mod_open 97 = .ok (.goto 10, 3) := by decide +kernel
theorem d_Mod_open_100 : decode b_Mod_open 100 = .ok (.aload_n 0, 1) := by decide +kernel
theorem d_Mod_open_101 : decode b_Mod_open 101 = .ok (.getfield 28, 3) := by decide +kernel
theorem d_Mod_open_104 : decode b_Mod_open 104 = .ok (.iload_n 1, 1) := by decide +kernel
theorem d_Mod_open_105 : decode b_Mod_open 105 = .ok (.iconst 2, 1) := by decide +kernel
theorem d_Mod_open_106 : decode b_Mod_open 106 = .ok (.iastore, 1) := by decide +kernel
theorem d_Mod_open_107 : decode b_Mod_open 107 = .ok (.return_, 1) := by decide +kernel
theorem d_Mod_codeOf_0 : decode b_Mod_codeOf 0 = .ok (.aload_n 0, 1) := by decide +kernel
theorem d_Mod_codeOf_1 : decode b_Mod_codeOf 1 = .ok (.getfield 35, 3) := by decide +kernel
theorem d_Mod_codeOf_4 : decode b_Mod_codeOf 4 = .ok (.aload_n 0, 1) := by decide +kernel
theorem d_Mod_codeOf_5 : decode b_Mod_codeOf 5 = .ok (.getfield 22, 3) := by decide +kernel
theorem d_Mod_codeOf_8 : decode b_Mod_codeOf 8 = .ok (.iload_n 1, 1) := by decide +kernel
theorem d_Mod_codeOf_9 : decode b_Mod_codeOf 9 = .ok (.iaload, 1) := by decide +kernel
theorem d_Mod_codeOf_10 : decode b_Mod_codeOf 10 = .ok (.iload_n 2, 1) := by decide +kernel
theorem d_Mod_codeOf_11 : decode b_Mod_codeOf 11 = .ok (.iadd, 1) := by decide +kernel
theorem d_Mod_codeOf_12 : decode b_Mod_codeOf 12 = .ok (.iaload, 1) := by decide +kernel
theorem d_Mod_codeOf_13 : decode b_Mod_codeOf 13 = .ok (.ireturn, 1) := by decide +kernel
theorem d_Mod_composed_0 : decode b_Mod_composed 0 = .ok (.aload_n 0, 1) := by decide +kernel
theorem d_Mod_composed_1 : decode b_Mod_composed 1 = .ok (.iload_n 1, 1) := by decide +kernel
theorem d_Mod_composed_2 : decode b_Mod_composed 2 = .ok (.invokevirtual 138, 3) := by decide +kernel
theorem d_Mod_composed_5 : decode b_Mod_composed 5 = .ok (.aload_n 0, 1) := by decide +kernel
theorem d_Mod_composed_6 : decode b_Mod_composed 6 = .ok (.invokevirtual 151, 3) := by decide +kernel
theorem d_Mod_composed_9 : decode b_Mod_composed 9 = .ok (.aload_n 0, 1) := by decide +kernel
theorem d_Mod_composed_10 : decode b_Mod_composed 10 = .ok (.getfield 64, 3) := by decide +kernel
theorem d_Mod_composed_13 : decode b_Mod_composed 13 = .ok (.aload_n 0, 1) := by decide +kernel
theorem d_Mod_composed_14 : decode b_Mod_composed 14 = .ok (.getfield 25, 3) := by decide +kernel
theorem d_Mod_composed_17 : decode b_Mod_composed 17 = .ok (.iload_n 1, 1) := by decide +kernel
theorem d_Mod_composed_18 : decode b_Mod_composed 18 = .ok (.iaload, 1) := by decide +kernel
theorem d_Mod_composed_19 : decode b_Mod_composed 19 = .ok (.if_icmp .ne 7, 3) := by decide +kernel
theorem d_Mod_composed_22 : decode b_Mod_composed 22 = .ok (.iconst 1, 1) := by decide +kernel
theorem d_Mod_composed_23 : decode b_Mod_composed 23 = .ok (.goto 4, 3) := by decide +kernel
theorem d_Mod_composed_26 : decode b_Mod_composed 26 = .ok (.iconst 0, 1) := by decide +kernel
theorem d_Mod_composed_27 : decode b_Mod_composed 27 = .ok (.istore_n 2, 1) := by decide +kernel
theorem d_Mod_composed_28 : decode b_Mod_composed 28 = .ok (.iconst 0, 1) := by decide +kernel
theorem d_Mod_composed_29 : decode b_Mod_composed 29 = .ok (.istore_n 3, 1) := by decide +kernel
theorem d_Mod_composed_30 : decode b_Mod_composed 30 = .ok (.iload_n 3, 1) := by decide +kernel
theorem d_Mod_composed_31 : decode b_Mod_composed 31 = .ok (.aload_n 0, 1) := by decide +kernel
theorem d_Mod_composed_32 : decode b_Mod_composed 32 = .ok (.getfield 25, 3) := by decide +kernel
theorem d_Mod_composed_35 : decode b_Mod_composed 35 = .ok (.iload_n 1, 1) := by decide +kernel
theorem d_Mod_composed_36 : decode b_Mod_composed 36 = .ok (.iaload, 1) := by decide +kernel
theorem d_Mod_composed_37 : decode b_Mod_composed 37 = .ok (.if_icmp .ge 34, 3) := by decide +kernel
theorem d_Mod_composed_40 : decode b_Mod_composed 40 = .ok (.iload_n 2, 1) := by decide +kernel
theorem d_Mod_composed_41 : decode b_Mod_composed 41 = .ok (.ifCond .eq 30, 3) := by decide +kernel
theorem d_Mod_composed_44 : decode b_Mod_composed 44 = .ok (.aload_n 0, 1) := by decide +kernel
theorem d_Mod_composed_45 : decode b_Mod_composed 45 = .ok (.getfield 16, 3) := by decide +kernel
theorem d_Mod_composed_48 : decode b_Mod_composed 48 = .ok (.iload_n 3, 1) := by decide +kernel
theorem d_Mod_composed_49 : decode b_Mod_composed 49 = .ok (.iaload, 1) := by decide +kernel
theorem d_Mod_composed_50 : decode b_Mod_composed 50 = .ok (.aload_n 0, 1) := by decide +kernel
theorem d_Mod_composed_51 : decode b_Mod_composed 51 = .ok (.iload_n 1, 1) := by decide +kernel
theorem d_Mod_composed_52 : decode b_Mod_composed 52 = .ok (.iload_n 3, 1) := by decide +kernel
theorem d_Mod_composed_53 : decode b_Mod_composed 53 = .ok (.invokevirtual 154, 3) := by decide +kernel
theorem d_Mod_composed_56 : decode b_Mod_composed 56 = .ok (.if_icmp .ne 7, 3) := by decide +kernel
theorem d_Mod_composed_59 : decode b_Mod_composed 59 = .ok (.iconst 1, 1) := by decide +kernel
theorem d_Mod_composed_60 : decode b_Mod_composed 60 = .ok (.goto 4, 3) := by decide +kernel
theorem d_Mod_composed_63 : decode b_Mod_composed 63 = .ok (.iconst 0, 1) := by decide +kernel
theorem d_Mod_composed_64 : decode b_Mod_composed 64 = .ok (.istore_n 2, 1) := by decide +kernel
theorem d_Mod_composed_65 : decode b_Mod_composed 65 = .ok (.iinc 3 1, 3) := by decide +kernel
theorem d_Mod_composed_68 : decode b_Mod_composed 68 = .ok (.goto (-38), 3) := by decide +kernel
theorem d_Mod_composed_71 : decode b_Mod_composed 71 = .ok (.iload_n 2, 1) := by decide +kernel
theorem d_Mod_composed_72 : decode b_Mod_composed 72 = .ok (.ireturn, 1) := by decide +kernel
theorem d_Mod_allGood_0 : decode b_Mod_allGood 0 = .ok (.iconst 1, 1) := by decide +kernel
theorem d_Mod_allGood_1 : decode b_Mod_allGood 1 = .ok (.istore_n 3, 1) := by decide +kernel
theorem d_Mod_allGood_2 : decode b_Mod_allGood 2 = .ok (.iconst 0, 1) := by decide +kernel
theorem d_Mod_allGood_3 : decode b_Mod_allGood 3 = .ok (.istore 4, 2) := by decide +kernel
theorem d_Mod_allGood_5 : decode b_Mod_allGood 5 = .ok (.iload 4, 2) := by decide +kernel
theorem d_Mod_allGood_7 : decode b_Mod_allGood 7 = .ok (.aload_n 0, 1) := by decide +kernel
theorem d_Mod_allGood_8 : decode b_Mod_allGood 8 = .ok (.getfield 25, 3) := by decide +kernel
theorem d_Mod_allGood_11 : decode b_Mod_allGood 11 = .ok (.iload_n 1, 1) := by decide +kernel
theorem d_Mod_allGood_12 : decode b_Mod_allGood 12 = .ok (.iaload, 1) := by decide +kernel
theorem d_Mod_allGood_13 : decode b_Mod_allGood 13 = .ok (.if_icmp .ge 89, 3) := by decide +kernel
theorem d_Mod_allGood_16 : decode b_Mod_allGood 16 = .ok (.aload_n 0, 1) := by decide +kernel
theorem d_Mod_allGood_17 : decode b_Mod_allGood 17 = .ok (.iload_n 1, 1) := by decide +kernel
theorem d_Mod_allGood_18 : decode b_Mod_allGood 18 = .ok (.iload 4, 2) := by decide +kernel
theorem d_Mod_allGood_20 : decode b_Mod_allGood 20 = .ok (.invokevirtual 154, 3) := by decide +kernel
theorem d_Mod_allGood_23 : decode b_Mod_allGood 23 = .ok (.istore 5, 2) := by decide +kernel
theorem d_Mod_allGood_25 : decode b_Mod_allGood 25 = .ok (.iload 5, 2) := by decide +kernel
theorem d_Mod_allGood_27 : decode b_Mod_allGood 27 = .ok (.invokestatic 116, 3) := by decide +kernel
theorem d_Mod_allGood_30 : decode b_Mod_allGood 30 = .ok (.ifCond .eq 24, 3) := by decide +kernel
theorem d_Mod_allGood_33 : decode b_Mod_allGood 33 = .ok (.aload_n 0, 1) := by decide +kernel
theorem d_Mod_allGood_34 : decode b_Mod_allGood 34 = .ok (.getfield 31, 3) := by decide +kernel
theorem d_Mod_allGood_37 : decode b_Mod_allGood 37 = .ok (.iload_n 1, 1) := by decide +kernel
theorem d_Mod_allGood_38 : decode b_Mod_allGood 38 = .ok (.baload, 1) := by decide +kernel
theorem d_Mod_allGood_39 : decode b_Mod_allGood 39 = .ok (.ifCond .ne 11, 3) := by decide +kernel
theorem d_Mod_allGood_42 : decode b_Mod_allGood 42 = .ok (.iload_n 2, 1) := by decide +kernel
theorem d_Mod_allGood_43 : decode b_Mod_allGood 43 = .ok (.iconst 2, 1) := by decide +kernel
theorem d_Mod_allGood_44 : decode b_Mod_allGood 44 = .ok (.invokestatic 119, 3) := by decide +kernel
theorem d_Mod_allGood_47 : decode b_Mod_allGood 47 = .ok (.ifCond .ne 7, 3) := by decide +kernel
theorem d_Mod_allGood_50 : decode b_Mod_allGood 50 = .ok (.iconst 1, 1) := by decide +kernel
theorem d_Mod_allGood_51 : decode b_Mod_allGood 51 = .ok (.goto 4, 3) := by decide +kernel
theorem d_Mod_allGood_54 : decode b_Mod_allGood 54 = .ok (.iconst 0, 1) := by decide +kernel
theorem d_Mod_allGood_55 : decode b_Mod_allGood 55 = .ok (.istore 6, 2) := by decide +kernel
theorem d_Mod_allGood_57 : decode b_Mod_allGood 57 = .ok (.iload_n 3, 1) := by decide +kernel
theorem d_Mod_allGood_58 : decode b_Mod_allGood 58 = .ok (.ifCond .eq 36, 3) := by decide +kernel
theorem d_Mod_allGood_61 : decode b_Mod_allGood 61 = .ok (.iload 5, 2) := by decide +kernel
theorem d_Mod_allGood_63 : decode b_Mod_allGood 63 = .ok (.invokestatic 50, 3) := by decide +kernel
theorem d_Mod_allGood_66 : decode b_Mod_allGood 66 = .ok (.ifCond .ne 24, 3) := by decide +kernel
theorem d_Mod_allGood_69 : decode b_Mod_allGood 69 = .ok (.iload 5, 2) := by decide +kernel
theorem d_Mod_allGood_71 : decode b_Mod_allGood 71 = .ok (.invokestatic 129, 3) := by decide +kernel
theorem d_Mod_allGood_74 : decode b_Mod_allGood 74 = .ok (.ifCond .eq 11, 3) := by decide +kernel
theorem d_Mod_allGood_77 : decode b_Mod_allGood 77 = .ok (.iload_n 2, 1) := by decide +kernel
theorem d_Mod_allGood_78 : decode b_Mod_allGood 78 = .ok (.iconst 1, 1) := by decide +kernel
theorem d_Mod_allGood_79 : decode b_Mod_allGood 79 = .ok (.invokestatic 119, 3) := by decide +kernel
theorem d_Mod_allGood_82 : decode b_Mod_allGood 82 = .ok (.ifCond .eq 8, 3) := by decide +kernel
theorem d_Mod_allGood_85 : decode b_Mod_allGood 85 = .ok (.iload 6, 2) := by decide +kernel
theorem d_Mod_allGood_87 : decode b_Mod_allGood 87 = .ok (.ifCond .eq 7, 3) := by decide +kernel
theorem d_Mod_allGood_90 : decode b_Mod_allGood 90 = .ok (.iconst 1, 1) := by decide +kernel
theorem d_Mod_allGood_91 : decode b_Mod_allGood 91 = .ok (.goto 4, 3) := by decide +kernel
theorem d_Mod_allGood_94 : decode b_Mod_allGood 94 = .ok (.iconst 0, 1) := by decide +kernel
theorem d_Mod_allGood_95 : decode b_Mod_allGood 95 = .ok (.istore_n 3, 1) := by decide +kernel
theorem d_Mod_allGood_96 : decode b_Mod_allGood 96 = .ok (.iinc 4 1, 3) := by decide +kernel
theorem d_Mod_allGood_99 : decode b_Mod_allGood 99 = .ok (.goto (-94), 3) := by decide +kernel
theorem d_Mod_allGood_102 : decode b_Mod_allGood 102 = .ok (.iload_n 3, 1) := by decide +kernel
theorem d_Mod_allGood_103 : decode b_Mod_allGood 103 = .ok (.ireturn, 1) := by decide +kernel
theorem d_Mod_joins_0 : decode b_Mod_joins 0 = .ok (.iload_n 0, 1) := by decide +kernel
theorem d_Mod_joins_1 : decode b_Mod_joins 1 = .ok (.sipush 1575, 3) := by decide +kernel
theorem d_Mod_joins_4 : decode b_Mod_joins 4 = .ok (.if_icmp .ne 7, 3) := by decide +kernel
theorem d_Mod_joins_7 : decode b_Mod_joins 7 = .ok (.iconst 1, 1) := by decide +kernel
theorem d_Mod_joins_8 : decode b_Mod_joins 8 = .ok (.goto 33, 3) := by decide +kernel
theorem d_Mod_joins_11 : decode b_Mod_joins 11 = .ok (.iload_n 0, 1) := by decide +kernel
theorem d_Mod_joins_12 : decode b_Mod_joins 12 = .ok (.sipush 1576, 3) := by decide +kernel
theorem d_Mod_joins_15 : decode b_Mod_joins 15 = .ok (.if_icmp .ne 7, 3) := by decide +kernel
theorem d_Mod_joins_18 : decode b_Mod_joins 18 = .ok (.iconst 2, 1) := by decide +kernel
theorem d_Mod_joins_19 : decode b_Mod_joins 19 = .ok (.goto 22, 3) := by decide +kernel
theorem d_Mod_joins_22 : decode b_Mod_joins 22 = .ok (.iload_n 0, 1) := by decide +kernel
theorem d_Mod_joins_23 : decode b_Mod_joins 23 = .ok (.sipush 1614, 3) := by decide +kernel
theorem d_Mod_joins_26 : decode b_Mod_joins 26 = .ok (.if_icmp .eq 10, 3) := by decide +kernel
theorem d_Mod_joins_29 : decode b_Mod_joins 29 = .ok (.iload_n 0, 1) := by decide +kernel
theorem d_Mod_joins_30 : decode b_Mod_joins 30 = .ok (.sipush 2381, 3) := by decide +kernel
theorem d_Mod_joins_33 : decode b_Mod_joins 33 = .ok (.if_icmp .ne 7, 3) := by decide +kernel
theorem d_Mod_joins_36 : decode b_Mod_joins 36 = .ok (.iconst 3, 1) := by decide +kernel
theorem d_Mod_joins_37 : decode b_Mod_joins 37 = .ok (.goto 4, 3) := by decide +kernel
theorem d_Mod_joins_40 : decode b_Mod_joins 40 = .ok (.iconst 0, 1) := by decide +kernel
theorem d_Mod_joins_41 : decode b_Mod_joins 41 = .ok (.ireturn, 1) := by decide +kernel
theorem d_Mod_across_0 : decode b_Mod_across 0 = .ok (.iload_n 2, 1) := by decide +kernel
theorem d_Mod_across_1 : decode b_Mod_across 1 = .ok (.iload_n 3, 1) := by decide +kernel
theorem d_Mod_across_2 : decode b_Mod_across 2 = .ok (.iadd, 1) := by decide +kernel
theorem d_Mod_across_3 : decode b_Mod_across 3 = .ok (.istore 4, 2) := by decide +kernel
theorem d_Mod_across_5 : decode b_Mod_across 5 = .ok (.iload 4, 2) := by decide +kernel
theorem d_Mod_across_7 : decode b_Mod_across 7 = .ok (.ifCond .lt 37, 3) := by decide +kernel
theorem d_Mod_across_10 : decode b_Mod_across 10 = .ok (.iload 4, 2) := by decide +kernel
theorem d_Mod_across_12 : decode b_Mod_across 12 = .ok (.aload_n 0, 1) := by decide +kernel
theorem d_Mod_across_13 : decode b_Mod_across 13 = .ok (.getfield 25, 3) := by decide +kernel
theorem d_Mod_across_16 : decode b_Mod_across 16 = .ok (.iload_n 1, 1) := by decide +kernel
theorem d_Mod_across_17 : decode b_Mod_across 17 = .ok (.iaload, 1) := by decide +kernel
theorem d_Mod_across_18 : decode b_Mod_across 18 = .ok (.if_icmp .ge 26, 3) := by decide +kernel
theorem d_Mod_across_21 : decode b_Mod_across 21 = .ok (.aload_n 0, 1) := by decide +kernel
theorem d_Mod_across_22 : decode b_Mod_across 22 = .ok (.iload_n 1, 1) := by decide +kernel
theorem d_Mod_across_23 : decode b_Mod_across 23 = .ok (.iload 4, 2) := by decide +kernel
theorem d_Mod_across_25 : decode b_Mod_across 25 = .ok (.invokevirtual 154, 3) := by decide +kernel
theorem d_Mod_across_28 : decode b_Mod_across 28 = .ok (.invokestatic 157, 3) := by decide +kernel
theorem d_Mod_across_31 : decode b_Mod_across 31 = .ok (.iconst 3, 1) := by decide +kernel
theorem d_Mod_across_32 : decode b_Mod_across 32 = .ok (.if_icmp .ne 12, 3) := by decide +kernel
theorem d_Mod_across_35 : decode b_Mod_across 35 = .ok (.iload 4, 2) := by decide +kernel
theorem d_Mod_across_37 : decode b_Mod_across 37 = .ok (.iload_n 3, 1) := by decide +kernel
theorem d_Mod_across_38 : decode b_Mod_across 38 = .ok (.iadd, 1) := by decide +kernel
theorem d_Mod_across_39 : decode b_Mod_across 39 = .ok (.istore 4, 2) := by decide +kernel
theorem d_Mod_across_41 : decode b_Mod_across 41 = .ok (.goto (-36), 3) := by decide +kernel
theorem d_Mod_across_44 : decode b_Mod_across 44 = .ok (.iload 4, 2) := by decide +kernel
theorem d_Mod_across_46 : decode b_Mod_across 46 = .ok (.ifCond .lt 24, 3) := by decide +kernel
theorem d_Mod_across_49 : decode b_Mod_across 49 = .ok (.iload 4, 2) := by decide +kernel
theorem d_Mod_across_51 : decode b_Mod_across 51 = .ok (.aload_n 0, 1) := by decide +kernel
theorem d_Mod_across_52 : decode b_Mod_across 52 = .ok (.getfield 25, 3) := by decide +kernel
theorem d_Mod_across_55 : decode b_Mod_across 55 = .ok (.iload_n 1, 1) := by decide +kernel
theorem d_Mod_across_56 : decode b_Mod_across 56 = .ok (.iaload, 1) := by decide +kernel
theorem d_Mod_across_57 : decode b_Mod_across 57 = .ok (.if_icmp .ge 13, 3) := by decide +kernel
theorem d_Mod_across_60 : decode b_Mod_across 60 = .ok (.aload_n 0, 1) := by decide +kernel
theorem d_Mod_across_61 : decode b_Mod_across 61 = .ok (.iload_n 1, 1) := by decide +kernel
theorem d_Mod_across_62 : decode b_Mod_across 62 = .ok (.iload 4, 2) := by decide +kernel
theorem d_Mod_across_64 : decode b_Mod_across 64 = .ok (.invokevirtual 154, 3) := by decide +kernel
theorem d_Mod_across_67 : decode b_Mod_across 67 = .ok (.goto 4, 3) := by decide +kernel
theorem d_Mod_across_70 : decode b_Mod_across 70 = .ok (.iconst (-1), 1) := by decide +kernel
theorem d_Mod_across_71 : decode b_Mod_across 71 = .ok (.ireturn, 1) := by decide +kernel
theorem d_Mod_joinersRight_0 : decode b_Mod_joinersRight 0 = .ok (.iconst 1, 1) := by decide +kernel
theorem d_Mod_joinersRight_1 : decode b_Mod_joinersRight 1 = .ok (.istore_n 2, 1) := by decide +kernel
theorem d_Mod_joinersRight_2 : decode b_Mod_joinersRight 2 = .ok (.iconst 0, 1) := by decide +kernel
theorem d_Mod_joinersRight_3 : decode b_Mod_joinersRight 3 = .ok (.istore_n 3, 1) := by decide +kernel
theorem d_Mod_joinersRight_4 : decode b_Mod_joinersRight 4 = .ok (.iload_n 3, 1) := by decide +kernel
theorem d_Mod_joinersRight_5 : decode b_Mod_joinersRight 5 = .ok (.aload_n 0, 1) := by decide +kernel
theorem d_Mod_joinersRight_6 : decode b_Mod_joinersRight 6 = .ok (.getfield 25, 3) := by decide +kernel
theorem d_Mod_joinersRight_9 : decode b_Mod_joinersRight 9 = .ok (.iload_n 1, 1) := by decide +kernel
theorem d_Mod_joinersRight_10 : decode b_Mod_joinersRight 10 = .ok (.iaload, 1) := by decide +kernel
theorem d_Mod_joinersRight_11 : decode b_Mod_joinersRight 11 = .ok (.if_icmp .ge 140, 3) := by decide +kernel
theorem d_Mod_joinersRight_14 : decode b_Mod_joinersRight 14 = .ok (.aload_n 0, 1) := by decide +kernel
theorem d_Mod_joinersRight_15 : decode b_Mod_joinersRight 15 = .ok (.iload_n 1, 1) := by decide +kernel
theorem d_Mod_joinersRight_16 : decode b_Mod_joinersRight 16 = .ok (.iload_n 3, 1) := by decide +kernel
theorem d_Mod_joinersRight_17 : decode b_Mod_joinersRight 17 = .ok (.invokevirtual 154, 3) := by decide +kernel
theorem d_Mod_joinersRight_20 : decode b_Mod_joinersRight 20 = .ok (.istore 4, 2) := by decide +kernel
theorem d_Mod_joinersRight_22 : decode b_Mod_joinersRight 22 = .ok (.iload_n 3, 1) := by decide +kernel
theorem d_Mod_joinersRight_23 : decode b_Mod_joinersRight 23 = .ok (.ifCond .le 23, 3) := by decide +kernel
theorem d_Mod_joinersRight_26 : decode b_Mod_joinersRight 26 = .ok (.aload_n 0, 1) := by decide +kernel
theorem d_Mod_joinersRight_27 : decode b_Mod_joinersRight 27 = .ok (.iload_n 1, 1) := by decide +kernel
theorem d_Mod_joinersRight_28 : decode b_Mod_joinersRight 28 = .ok (.iload_n 3, 1) := by decide +kernel
theorem d_Mod_joinersRight_29 : decode b_Mod_joinersRight 29 = .ok (.iconst 1, 1) := by decide +kernel
theorem d_Mod_joinersRight_30 : decode b_Mod_joinersRight 30 = .ok (.isub, 1) := by decide +kernel
theorem d_Mod_joinersRight_31 : decode b_Mod_joinersRight 31 = .ok (.invokevirtual 154, 3) := by decide +kernel
theorem d_Mod_joinersRight_34 : decode b_Mod_joinersRight 34 = .ok (.invokestatic 45, 3) := by decide +kernel
theorem d_Mod_joinersRight_37 : decode b_Mod_joinersRight 37 = .ok (.bipush 9, 2) := by decide +kernel
theorem d_Mod_joinersRight_39 : decode b_Mod_joinersRight 39 = .ok (.if_icmp .ne 7, 3) := by decide +kernel
theorem d_Mod_joinersRight_42 : decode b_Mod_joinersRight 42 = .ok (.iconst 1, 1) := by decide +kernel
theorem d_Mod_joinersRight_43 : decode b_Mod_joinersRight 43 = .ok (.goto 4, 3) := by decide +kernel
theorem d_Mod_joinersRight_46 : decode b_Mod_joinersRight 46 = .ok (.iconst 0, 1) := by decide +kernel
theorem d_Mod_joinersRight_47 : decode b_Mod_joinersRight 47 = .ok (.istore 5, 2) := by decide +kernel
theorem d_Mod_joinersRight_49 : decode b_Mod_joinersRight 49 = .ok (.iload 4, 2) := by decide +kernel
theorem d_Mod_joinersRight_51 : decode b_Mod_joinersRight 51 = .ok (.sipush 8205, 3) := by decide +kernel
theorem d_Mod_joinersRight_54 : decode b_Mod_joinersRight 54 = .ok (.if_icmp .ne 18, 3) := by decide +kernel
theorem d_Mod_joinersRight_57 : decode b_Mod_joinersRight 57 = .ok (.iload_n 2, 1) := by decide +kernel
theorem d_Mod_joinersRight_58 : decode b_Mod_joinersRight 58 = .ok (.ifCond .eq 12, 3) := by decide +kernel
theorem d_Mod_joinersRight_61 : decode b_Mod_joinersRight 61 = .ok (.iload 5, 2) := by decide +kernel
theorem d_Mod_joinersRight_63 : decode b_Mod_joinersRight 63 = .ok (.ifCond .eq 7, 3) := by decide +kernel
theorem d_Mod_joinersRight_66 : decode b_Mod_joinersRight 66 = .ok (.iconst 1, 1) := by decide +kernel
theorem d_Mod_joinersRight_67 : decode b_Mod_joinersRight 67 = .ok (.goto 4, 3) := by decide +kernel
theorem d_Mod_joinersRight_70 : decode b_Mod_joinersRight 70 = .ok (.iconst 0, 1) := by decide +kernel
theorem d_Mod_joinersRight_71 : decode b_Mod_joinersRight 71 = .ok (.istore_n 2, 1) := by decide +kernel
theorem d_Mod_joinersRight_72 : decode b_Mod_joinersRight 72 = .ok (.iload 4, 2) := by decide +kernel
theorem d_Mod_joinersRight_74 : decode b_Mod_joinersRight 74 = .ok (.sipush 8204, 3) := by decide +kernel
theorem d_Mod_joinersRight_77 : decode b_Mod_joinersRight 77 = .ok (.if_icmp .ne 68, 3) := by decide +kernel
theorem d_Mod_joinersRight_80 : decode b_Mod_joinersRight 80 = .ok (.aload_n 0, 1) := by decide +kernel
theorem d_Mod_joinersRight_81 : decode b_Mod_joinersRight 81 = .ok (.iload_n 1, 1) := by decide +kernel
theorem d_Mod_joinersRight_82 : decode b_Mod_joinersRight 82 = .ok (.iload_n 3, 1) := by decide +kernel
theorem d_Mod_joinersRight_83 : decode b_Mod_joinersRight 83 = .ok (.iconst 1, 1) := by decide +kernel
theorem d_Mod_joinersRight_84 : decode b_Mod_joinersRight 84 = .ok (.invokevirtual 160, 3) := by decide +kernel
theorem d_Mod_joinersRight_87 : decode b_Mod_joinersRight 87 = .ok (.invokestatic 157, 3) := by decide +kernel
theorem d_Mod_joinersRight_90 : decode b_Mod_joinersRight 90 = .ok (.istore 6, 2) := by decide +kernel
theorem d_Mod_joinersRight_92 : decode b_Mod_joinersRight 92 = .ok (.aload_n 0, 1) := by decide +kernel
theorem d_Mod_joinersRight_93 : decode b_Mod_joinersRight 93 = .ok (.iload_n 1, 1) := by decide +kernel
theorem d_Mod_joinersRight_94 : decode b_Mod_joinersRight 94 = .ok (.iload_n 3, 1) := by decide +kernel
theorem d_Mod_joinersRight_95 : decode b_Mod_joinersRight 95 = .ok (.iconst (-1), 1) := by decide +kernel
theorem d_Mod_joinersRight_96 : decode b_Mod_joinersRight 96 = .ok (.invokevirtual 160, 3) := by decide +kernel
theorem d_Mod_joinersRight_99 : decode b_Mod_joinersRight 99 = .ok (.invokestatic 157, 3) := by decide +kernel
theorem d_Mod_joinersRight_102 : decode b_Mod_joinersRight 102 = .ok (.iconst 2, 1) := by decide +kernel
theorem d_Mod_joinersRight_103 : decode b_Mod_joinersRight 103 = .ok (.if_icmp .ne 19, 3) := by decide +kernel
theorem d_Mod_joinersRight_106 : decode b_Mod_joinersRight 106 = .ok (.iload 6, 2) := by decide +kernel
theorem d_Mod_joinersRight_108 : decode b_Mod_joinersRight 108 = .ok (.iconst 1, 1) := by decide +kernel
theorem d_Mod_joinersRight_109 : decode b_Mod_joinersRight 109 = .ok (.if_icmp .eq 9, 3) := by decide +kernel
theorem d_Mod_joinersRight_112 : decode b_Mod_joinersRight 112 = .ok (.iload 6, 2) := by decide +kernel
theorem d_Mod_joinersRight_114 : decode b_Mod_joinersRight 114 = .ok (.iconst 2, 1) := by decide +kernel
theorem d_Mod_joinersRight_115 : decode b_Mod_joinersRight 115 = .ok (.if_icmp .ne 7, 3) := by decide +kernel
theorem d_Mod_joinersRight_118 : decode b_Mod_joinersRight 118 = .ok (.iconst 1, 1) := by decide +kernel
theorem d_Mod_joinersRight_119 : decode b_Mod_joinersRight 119 = .ok (.goto 4, 3) := by decide +kernel
theorem d_Mod_joinersRight_122 : decode b_Mod_joinersRight 122 = .ok (.iconst 0, 1) := by decide +kernel
theorem d_Mod_joinersRight_123 : decode b_Mod_joinersRight 123 = .ok (.istore 7, 2) := by decide +kernel
theorem d_Mod_joinersRight_125 : decode b_Mod_joinersRight 125 = .ok (.iload_n 2, 1) := by decide +kernel
theorem d_Mod_joinersRight_126 : decode b_Mod_joinersRight 126 = .ok (.ifCond .eq 17, 3) := by decide +kernel
theorem d_Mod_joinersRight_129 : decode b_Mod_joinersRight 129 = .ok (.iload 5, 2) := by decide +kernel
theorem d_Mod_joinersRight_131 : decode b_Mod_joinersRight 131 = .ok (.ifCond .ne 8, 3) := by decide +kernel
theorem d_Mod_joinersRight_134 : decode b_Mod_joinersRight 134 = .ok (.iload 7, 2) := by decide +kernel
theorem d_Mod_joinersRight_136 : decode b_Mod_joinersRight 136 = .ok (.ifCond .eq 7, 3) := by decide +kernel
theorem d_Mod_joinersRight_139 : decode b_Mod_joinersRight 139 = .ok (.iconst 1, 1) := by decide +kernel
theorem d_Mod_joinersRight_140 : decode b_Mod_joinersRight 140 = .ok (.goto 4, 3) := by decide +kernel
theorem d_Mod_joinersRight_143 : decode b_Mod_joinersRight 143 = .ok (.iconst 0, 1) := by decide +kernel
theorem d_Mod_joinersRight_144 : decode b_Mod_joinersRight 144 = .ok (.istore_n 2, 1) := by decide +kernel
theorem d_Mod_joinersRight_145 : decode b_Mod_joinersRight 145 = .ok (.iinc 3 1, 3) := by decide +kernel
theorem d_Mod_joinersRight_148 : decode b_Mod_joinersRight 148 = .ok (.goto (-144), 3) := by decide +kernel
theorem d_Mod_joinersRight_151 : decode b_Mod_joinersRight 151 = .ok (.iload_n 2, 1) := by decide +kernel
theorem d_Mod_joinersRight_152 : decode b_Mod_joinersRight 152 = .ok (.ireturn, 1) := by decide +kernel
theorem d_Mod_directed_0 : decode b_Mod_directed 0 = .ok (.aload_n 0, 1) := by decide +kernel
theorem d_Mod_directed_1 : decode b_Mod_directed 1 = .ok (.getfield 25, 3) := by decide +kernel
theorem d_Mod_directed_4 : decode b_Mod_directed 4 = .ok (.iload_n 1, 1) := by decide +kernel
theorem d_Mod_directed_5 : decode b_Mod_directed 5 = .ok (.iaload, 1) := by decide +kernel
theorem d_Mod_directed_6 : decode b_Mod_directed 6 = .ok (.istore_n 2, 1) := by decide +kernel
theorem d_Mod_directed_7 : decode b_Mod_directed 7 = .ok (.iconst 0, 1) := by decide +kernel
theorem d_Mod_directed_8 : decode b_Mod_directed 8 = .ok (.istore_n 3, 1) := by decide +kernel
theorem d_Mod_directed_9 : decode b_Mod_directed 9 = .ok (.iconst 0, 1) := by decide +kernel
theorem d_Mod_directed_10 : decode b_Mod_directed 10 = .ok (.istore 4, 2) := by decide +kernel
theorem d_Mod_directed_12 : decode b_Mod_directed 12 = .ok (.iload 4, 2) := by decide +kernel
theorem d_Mod_directed_14 : decode b_Mod_directed 14 = .ok (.iload_n 2, 1) := by decide +kernel
theorem d_Mod_directed_15 : decode b_Mod_directed 15 = .ok (.if_icmp .ge 24, 3) := by decide +kernel
theorem d_Mod_directed_18 : decode b_Mod_directed 18 = .ok (.iload_n 3, 1) := by decide +kernel
theorem d_Mod_directed_19 : decode b_Mod_directed 19 = .ok (.iconst 1, 1) := by decide +kernel
theorem d_Mod_directed_20 : decode b_Mod_directed 20 = .ok (.aload_n 0, 1) := by decide +kernel
theorem d_Mod_directed_21 : decode b_Mod_directed 21 = .ok (.iload_n 1, 1) := by decide +kernel
theorem d_Mod_directed_22 : decode b_Mod_directed 22 = .ok (.iload 4, 2) := by decide +kernel
theorem d_Mod_directed_24 : decode b_Mod_directed 24 = .ok (.invokevirtual 154, 3) := by decide +kernel
theorem d_Mod_directed_27 : decode b_Mod_directed 27 = .ok (.invokestatic 164, 3) := by decide +kernel
theorem d_Mod_directed_30 : decode b_Mod_directed 30 = .ok (.ishl, 1) := by decide +kernel
theorem d_Mod_directed_31 : decode b_Mod_directed 31 = .ok (.ior, 1) := by decide +kernel
theorem d_Mod_directed_32 : decode b_Mod_directed 32 = .ok (.istore_n 3, 1) := by decide +kernel
theorem d_Mod_directed_33 : decode b_Mod_directed 33 = .ok (.iinc 4 1, 3) := by decide +kernel
theorem d_Mod_directed_36 : decode b_Mod_directed 36 = .ok (.goto (-24), 3) := by decide +kernel
theorem d_Mod_directed_39 : decode b_Mod_directed 39 = .ok (.iload_n 2, 1) := by decide +kernel
theorem d_Mod_directed_40 : decode b_Mod_directed 40 = .ok (.iconst 1, 1) := by decide +kernel
theorem d_Mod_directed_41 : decode b_Mod_directed 41 = .ok (.isub, 1) := by decide +kernel
theorem d_Mod_directed_42 : decode b_Mod_directed 42 = .ok (.istore 4, 2) := by decide +kernel
theorem d_Mod_directed_44 : decode b_Mod_directed 44 = .ok (.iload 4, 2) := by decide +kernel
theorem d_Mod_directed_46 : decode b_Mod_directed 46 = .ok (.ifCond .le 24, 3) := by decide +kernel
theorem d_Mod_directed_49 : decode b_Mod_directed 49 = .ok (.aload_n 0, 1) := by decide +kernel
theorem d_Mod_directed_50 : decode b_Mod_directed 50 = .ok (.iload_n 1, 1) := by decide +kernel
theorem d_Mod_directed_51 : decode b_Mod_directed 51 = .ok (.iload 4, 2) := by decide +kernel
theorem d_Mod_directed_53 : decode b_Mod_directed 53 = .ok (.invokevirtual 154, 3) := by decide +kernel
theorem d_Mod_directed_56 : decode b_Mod_directed 56 = .ok (.invokestatic 164, 3) := by decide +kernel
theorem d_Mod_directed_59 : decode b_Mod_directed 59 = .ok (.bipush 6, 2) := by decide +kernel
theorem d_Mod_directed_61 : decode b_Mod_directed 61 = .ok (.if_icmp .ne 9, 3) := by decide +kernel
theorem d_Mod_directed_64 : decode b_Mod_directed 64 = .ok (.iinc 4 ( -1), 3) := by decide +kernel
theorem d_Mod_directed_67 : decode b_Mod_directed 67 = .ok (.goto (-23), 3) := by decide +kernel
theorem d_Mod_directed_70 : decode b_Mod_directed 70 = .ok (.aload_n 0, 1) := by decide +kernel
theorem d_Mod_directed_71 : decode b_Mod_directed 71 = .ok (.iload_n 1, 1) := by decide +kernel
theorem d_Mod_directed_72 : decode b_Mod_directed 72 = .ok (.iload 4, 2) := by decide +kernel
theorem d_Mod_directed_74 : decode b_Mod_directed 74 = .ok (.invokevirtual 154, 3) := by decide +kernel
theorem d_Mod_directed_77 : decode b_Mod_directed 77 = .ok (.invokestatic 164, 3) := by decide +kernel
theorem d_Mod_directed_80 : decode b_Mod_directed 80 = .ok (.istore 5, 2) := by decide +kernel
theorem d_Mod_directed_82 : decode b_Mod_directed 82 = .ok (.aload_n 0, 1) := by decide +kernel
theorem d_Mod_directed_83 : decode b_Mod_directed 83 = .ok (.iload_n 1, 1) := by decide +kernel
theorem d_Mod_directed_84 : decode b_Mod_directed 84 = .ok (.iconst 0, 1) := by decide +kernel
theorem d_Mod_directed_85 : decode b_Mod_directed 85 = .ok (.invokevirtual 154, 3) := by decide +kernel
theorem d_Mod_directed_88 : decode b_Mod_directed 88 = .ok (.invokestatic 164, 3) := by decide +kernel
theorem d_Mod_directed_91 : decode b_Mod_directed 91 = .ok (.istore 6, 2) := by decide +kernel
theorem d_Mod_directed_93 : decode b_Mod_directed 93 = .ok (.iload 6, 2) := by decide +kernel
theorem d_Mod_directed_95 : decode b_Mod_directed 95 = .ok (.bipush 9, 2) := by decide +kernel
theorem d_Mod_directed_97 : decode b_Mod_directed 97 = .ok (.if_icmp .ne 29, 3) := by decide +kernel
theorem d_Mod_directed_100 : decode b_Mod_directed 100 = .ok (.iload_n 3, 1) := by decide +kernel
theorem d_Mod_directed_101 : decode b_Mod_directed 101 = .ok (.bipush 14, 2) := by decide +kernel
theorem d_Mod_directed_103 : decode b_Mod_directed 103 = .ok (.iand, 1) := by decide +kernel
theorem d_Mod_directed_104 : decode b_Mod_directed 104 = .ok (.ifCond .ne 20, 3) := by decide +kernel
theorem d_Mod_directed_107 : decode b_Mod_directed 107 = .ok (.iload 5, 2) := by decide +kernel
theorem d_Mod_directed_109 : decode b_Mod_directed 109 = .ok (.bipush 9, 2) := by decide +kernel
theorem d_Mod_directed_111 : decode b_Mod_directed 111 = .ok (.if_icmp .eq 9, 3) := by decide +kernel
theorem d_Mod_directed_114 : decode b_Mod_directed 114 = .ok (.iload 5, 2) := by decide +kernel
theorem d_Mod_directed_116 : decode b_Mod_directed 116 = .ok (.iconst 4, 1) := by decide +kernel
theorem d_Mod_directed_117 : decode b_Mod_directed 117 = .ok (.if_icmp .ne 7, 3) := by decide +kernel
theorem d_Mod_directed_120 : decode b_Mod_directed 120 = .ok (.iconst 1, 1) := by decide +kernel
theorem d_Mod_directed_121 : decode b_Mod_directed 121 = .ok (.goto 4, 3) := by decide +kernel
theorem d_Mod_directed_124 : decode b_Mod_directed 124 = .ok (.iconst 0, 1) := by decide +kernel
theorem d_Mod_directed_125 : decode b_Mod_directed 125 = .ok (.ireturn, 1) := by decide +kernel
theorem d_Mod_directed_126 : decode b_Mod_directed 126 = .ok (.iload_n 3, 1) := by decide +kernel
theorem d_Mod_directed_127 : decode b_Mod_directed 127 = .ok (.iconst 3, 1) := by decide +kernel
theorem d_Mod_directed_128 : decode b_Mod_directed 128 = .ok (.ishr, 1) := by decide +kernel
theorem d_Mod_directed_129 : decode b_Mod_directed 129 = .ok (.iconst 1, 1) := by decide +kernel
theorem d_Mod_directed_130 : decode b_Mod_directed 130 = .ok (.iand, 1) := by decide +kernel
theorem d_Mod_directed_131 : decode b_Mod_directed 131 = .ok (.iconst 1, 1) := by decide +kernel
theorem d_Mod_directed_132 : decode b_Mod_directed 132 = .ok (.if_icmp .ne 16, 3) := by decide +kernel
theorem d_Mod_directed_135 : decode b_Mod_directed 135 = .ok (.iload_n 3, 1) := by decide +kernel
theorem d_Mod_directed_136 : decode b_Mod_directed 136 = .ok (.iconst 4, 1) := by decide +kernel
theorem d_Mod_directed_137 : decode b_Mod_directed 137 = .ok (.ishr, 1) := by decide +kernel
theorem d_Mod_directed_138 : decode b_Mod_directed 138 = .ok (.iconst 1, 1) := by decide +kernel
theorem d_Mod_directed_139 : decode b_Mod_directed 139 = .ok (.iand, 1) := by decide +kernel
theorem d_Mod_directed_140 : decode b_Mod_directed 140 = .ok (.iconst 1, 1) := by decide +kernel
theorem d_Mod_directed_141 : decode b_Mod_directed 141 = .ok (.if_icmp .ne 7, 3) := by decide +kernel
theorem d_Mod_directed_144 : decode b_Mod_directed 144 = .ok (.iconst 1, 1) := by decide +kernel
theorem d_Mod_directed_145 : decode b_Mod_directed 145 = .ok (.goto 4, 3) := by decide +kernel
theorem d_Mod_directed_148 : decode b_Mod_directed 148 = .ok (.iconst 0, 1) := by decide +kernel
theorem d_Mod_directed_149 : decode b_Mod_directed 149 = .ok (.istore 7, 2) := by decide +kernel
theorem d_Mod_directed_151 : decode b_Mod_directed 151 = .ok (.iload 6, 2) := by decide +kernel
theorem d_Mod_directed_153 : decode b_Mod_directed 153 = .ok (.iconst 1, 1) := by decide +kernel
theorem d_Mod_directed_154 : decode b_Mod_directed 154 = .ok (.if_icmp .eq 9, 3) := by decide +kernel
theorem d_Mod_directed_157 : decode b_Mod_directed 157 = .ok (.iload 6, 2) := by decide +kernel
theorem d_Mod_directed_159 : decode b_Mod_directed 159 = .ok (.iconst 2, 1) := by decide +kernel
theorem d_Mod_directed_160 : decode b_Mod_directed 160 = .ok (.if_icmp .ne 33, 3) := by decide +kernel
theorem d_Mod_directed_163 : decode b_Mod_directed 163 = .ok (.iload_n 3, 1) := by decide +kernel
theorem d_Mod_directed_164 : decode b_Mod_directed 164 = .ok (.bipush 9, 2) := by decide +kernel
theorem d_Mod_directed_166 : decode b_Mod_directed 166 = .ok (.ishr, 1) := by decide +kernel
theorem d_Mod_directed_167 : decode b_Mod_directed 167 = .ok (.iconst 1, 1) := by decide +kernel
theorem d_Mod_directed_168 : decode b_Mod_directed 168 = .ok (.iand, 1) := by decide +kernel
theorem d_Mod_directed_169 : decode b_Mod_directed 169 = .ok (.ifCond .ne 24, 3) := by decide +kernel
theorem d_Mod_directed_172 : decode b_Mod_directed 172 = .ok (.iload 5, 2) := by decide +kernel
theorem d_Mod_directed_174 : decode b_Mod_directed 174 = .ok (.iconst 1, 1) := by decide +kernel
theorem d_Mod_directed_175 : decode b_Mod_directed 175 = .ok (.if_icmp .lt 18, 3) := by decide +kernel
theorem d_Mod_directed_178 : decode b_Mod_directed 178 = .ok (.iload 5, 2) := by decide +kernel
theorem d_Mod_directed_180 : decode b_Mod_directed 180 = .ok (.iconst 4, 1) := by decide +kernel
theorem d_Mod_directed_181 : decode b_Mod_directed 181 = .ok (.if_icmp .gt 12, 3) := by decide +kernel
theorem d_Mod_directed_184 : decode b_Mod_directed 184 = .ok (.iload 7, 2) := by decide +kernel
theorem d_Mod_directed_186 : decode b_Mod_directed 186 = .ok (.ifCond .ne 7, 3) := by decide +kernel
theorem d_Mod_directed_189 : decode b_Mod_directed 189 = .ok (.iconst 1, 1) := by decide +kernel
theorem d_Mod_directed_190 : decode b_Mod_directed 190 = .ok (.goto 4, 3) := by decide +kernel
theorem d_Mod_directed_193 : decode b_Mod_directed 193 = .ok (.iconst 0, 1) := by decide +kernel
theorem d_Mod_directed_194 : decode b_Mod_directed 194 = .ok (.ireturn, 1) := by decide +kernel
theorem d_Mod_anyRight_0 : decode b_Mod_anyRight 0 = .ok (.iconst 0, 1) := by decide +kernel
theorem d_Mod_anyRight_1 : decode b_Mod_anyRight 1 = .ok (.istore_n 1, 1) := by decide +kernel
theorem d_Mod_anyRight_2 : decode b_Mod_anyRight 2 = .ok (.iconst 0, 1) := by decide +kernel
theorem d_Mod_anyRight_3 : decode b_Mod_anyRight 3 = .ok (.istore_n 2, 1) := by decide +kernel
theorem d_Mod_anyRight_4 : decode b_Mod_anyRight 4 = .ok (.iload_n 2, 1) := by decide +kernel
theorem d_Mod_anyRight_5 : decode b_Mod_anyRight 5 = .ok (.aload_n 0, 1) := by decide +kernel
theorem d_Mod_anyRight_6 : decode b_Mod_anyRight 6 = .ok (.getfield 135, 3) := by decide +kernel
theorem d_Mod_anyRight_9 : decode b_Mod_anyRight 9 = .ok (.if_icmp .ge 50, 3) := by decide +kernel
theorem d_Mod_anyRight_12 : decode b_Mod_anyRight 12 = .ok (.iconst 0, 1) := by decide +kernel
theorem d_Mod_anyRight_13 : decode b_Mod_anyRight 13 = .ok (.istore_n 3, 1) := by decide +kernel
theorem d_Mod_anyRight_14 : decode b_Mod_anyRight 14 = .ok (.iload_n 3, 1) := by decide +kernel
theorem d_Mod_anyRight_15 : decode b_Mod_anyRight 15 = .ok (.aload_n 0, 1) := by decide +kernel
theorem d_Mod_anyRight_16 : decode b_Mod_anyRight 16 = .ok (.getfield 25, 3) := by decide +kernel
theorem d_Mod_anyRight_19 : decode b_Mod_anyRight 19 = .ok (.iload_n 2, 1) := by decide +kernel
theorem d_Mod_anyRight_20 : decode b_Mod_anyRight 20 = .ok (.iaload, 1) := by decide +kernel
theorem d_Mod_anyRight_21 : decode b_Mod_anyRight 21 = .ok (.if_icmp .ge 32, 3) := by decide +kernel
theorem d_Mod_anyRight_24 : decode b_Mod_anyRight 24 = .ok (.iload_n 1, 1) := by decide +kernel
theorem d_Mod_anyRight_25 : decode b_Mod_anyRight 25 = .ok (.ifCond .ne 16, 3) := by decide +kernel
theorem d_Mod_anyRight_28 : decode b_Mod_anyRight 28 = .ok (.aload_n 0, 1) := by decide +kernel
theorem d_Mod_anyRight_29 : decode b_Mod_anyRight 29 = .ok (.iload_n 2, 1) := by decide +kernel
theorem d_Mod_anyRight_30 : decode b_Mod_anyRight 30 = .ok (.iload_n 3, 1) := by decide +kernel
theorem d_Mod_anyRight_31 : decode b_Mod_anyRight 31 = .ok (.invokevirtual 154, 3) := by decide +kernel
theorem d_Mod_anyRight_34 : decode b_Mod_anyRight 34 = .ok (.invokestatic 164, 3) := by decide +kernel
theorem d_Mod_anyRight_37 : decode b_Mod_anyRight 37 = .ok (.iconst 3, 1) := by decide +kernel
theorem d_Mod_anyRight_38 : decode b_Mod_anyRight 38 = .ok (.if_icmp .gt 7, 3) := by decide +kernel
theorem d_Mod_anyRight_41 : decode b_Mod_anyRight 41 = .ok (.iconst 1, 1) := by decide +kernel
theorem d_Mod_anyRight_42 : decode b_Mod_anyRight 42 = .ok (.goto 4, 3) := by decide +kernel
theorem d_Mod_anyRight_45 : decode b_Mod_anyRight 45 = .ok (.iconst 0, 1) := by decide +kernel
theorem d_Mod_anyRight_46 : decode b_Mod_anyRight 46 = .ok (.istore_n 1, 1) := by decide +kernel
theorem d_Mod_anyRight_47 : decode b_Mod_anyRight 47 = .ok (.iinc 3 1, 3) := by decide +kernel
theorem d_Mod_anyRight_50 : decode b_Mod_anyRight 50 = .ok (.goto (-36), 3) := by decide +kernel
theorem d_Mod_anyRight_53 : decode b_Mod_anyRight 53 = .ok (.iinc 2 1, 3) := by decide +kernel
theorem d_Mod_anyRight_56 : decode b_Mod_anyRight 56 = .ok (.goto (-52), 3) := by decide +kernel
theorem d_Mod_anyRight_59 : decode b_Mod_anyRight 59 = .ok (.iload_n 1, 1) := by decide +kernel
theorem d_Mod_anyRight_60 : decode b_Mod_anyRight 60 = .ok (.ireturn, 1) := by decide +kernel
theorem d_Mod_hyphenRules_0 : decode b_Mod_hyphenRules 0 = .ok (.aload_n 0, 1) := by decide +kernel
theorem d_Mod_hyphenRules_1 : decode b_Mod_hyphenRules 1 = .ok (.getfield 25, 3) := by decide +kernel
theorem d_Mod_hyphenRules_4 : decode b_Mod_hyphenRules 4 = .ok (.iload_n 1, 1) := by decide +kernel
theorem d_Mod_hyphenRules_5 : decode b_Mod_hyphenRules 5 = .ok (.iaload, 1) := by decide +kernel
theorem d_Mod_hyphenRules_6 : decode b_Mod_hyphenRules 6 = .ok (.istore_n 2, 1) := by decide +kernel
theorem d_Mod_hyphenRules_7 : decode b_Mod_hyphenRules 7 = .ok (.iload_n 2, 1) := by decide +kernel
theorem d_Mod_hyphenRules_8 : decode b_Mod_hyphenRules 8 = .ok (.iconst 3, 1) := by decide +kernel
theorem d_Mod_hyphenRules_9 : decode b_Mod_hyphenRules 9 = .ok (.if_icmp .le 30, 3) := by decide +kernel
theorem d_Mod_hyphenRules_12 : decode b_Mod_hyphenRules 12 = .ok (.aload_n 0, 1) := by decide +kernel
theorem d_Mod_hyphenRules_13 : decode b_Mod_hyphenRules 13 = .ok (.iload_n 1, 1) := by decide +kernel
theorem d_Mod_hyphenRules_14 : decode b_Mod_hyphenRules 14 = .ok (.iconst 2, 1) := by decide +kernel
theorem d_Mod_hyphenRules_15 : decode b_Mod_hyphenRules 15 = .ok (.invokevirtual 154, 3) := by decide +kernel
theorem d_Mod_hyphenRules_18 : decode b_Mod_hyphenRules 18 = .ok (.bipush 45, 2) := by decide +kernel
theorem d_Mod_hyphenRules_20 : decode b_Mod_hyphenRules 20 = .ok (.if_icmp .ne 19, 3) := by decide +kernel
theorem d_Mod_hyphenRules_23 : decode b_Mod_hyphenRules 23 = .ok (.aload_n 0, 1) := by decide +kernel
theorem d_Mod_hyphenRules_24 : decode b_Mod_hyphenRules 24 = .ok (.iload_n 1, 1) := by decide +kernel
theorem d_Mod_hyphenRules_25 : decode b_Mod_hyphenRules 25 = .ok (.iconst 3, 1) := by decide +kernel
theorem d_Mod_hyphenRules_26 : decode b_Mod_hyphenRules 26 = .ok (.invokevirtual 154, 3) := by decide +kernel
theorem d_Mod_hyphenRules_29 : decode b_Mod_hyphenRules 29 = .ok (.bipush 45, 2) := by decide +kernel
theorem d_Mod_hyphenRules_31 : decode b_Mod_hyphenRules 31 = .ok (.if_icmp .ne 8, 3) := by decide +kernel
theorem d_Mod_hyphenRules_34 : decode b_Mod_hyphenRules 34 = .ok (.bipush 8, 2) := by decide +kernel
theorem d_Mod_hyphenRules_36 : decode b_Mod_hyphenRules 36 = .ok (.goto 4, 3) := by decide +kernel
theorem d_Mod_hyphenRules_39 : decode b_Mod_hyphenRules 39 = .ok (.iconst 0, 1) := by decide +kernel
theorem d_Mod_hyphenRules_40 : decode b_Mod_hyphenRules 40 = .ok (.istore_n 3, 1) := by decide +kernel
theorem d_Mod_hyphenRules_41 : decode b_Mod_hyphenRules 41 = .ok (.aload_n 0, 1) := by decide +kernel
theorem d_Mod_hyphenRules_42 : decode b_Mod_hyphenRules 42 = .ok (.iload_n 1, 1) := by decide +kernel
theorem d_Mod_hyphenRules_43 : decode b_Mod_hyphenRules 43 = .ok (.iconst 0, 1) := by decide +kernel
theorem d_Mod_hyphenRules_44 : decode b_Mod_hyphenRules 44 = .ok (.invokevirtual 154, 3) := by decide +kernel
theorem d_Mod_hyphenRules_47 : decode b_Mod_hyphenRules 47 = .ok (.bipush 45, 2) := by decide +kernel
theorem d_Mod_hyphenRules_49 : decode b_Mod_hyphenRules 49 = .ok (.if_icmp .eq 16, 3) := by decide +kernel
theorem d_Mod_hyphenRules_52 : decode b_Mod_hyphenRules 52 = .ok (.aload_n 0, 1) := by decide +kernel
theorem d_Mod_hyphenRules_53 : decode b_Mod_hyphenRules 53 = .ok (.iload_n 1, 1) := by decide +kernel
theorem d_Mod_hyphenRules_54 : decode b_Mod_hyphenRules 54 = .ok (.iload_n 2, 1) := by decide +kernel
theorem d_Mod_hyphenRules_55 : decode b_Mod_hyphenRules 55 = .ok (.iconst 1, 1) := by decide +kernel
theorem d_Mod_hyphenRules_56 : decode b_Mod_hyphenRules 56 = .ok (.isub, 1) := by decide +kernel
theorem d_Mod_hyphenRules_57 : decode b_Mod_hyphenRules 57 = .ok (.invokevirtual 154, 3) := by decide +kernel
theorem d_Mod_hyphenRules_60 : decode b_Mod_hyphenRules 60 = .ok (.bipush 45, 2) := by decide +kernel
theorem d_Mod_hyphenRules_62 : decode b_Mod_hyphenRules 62 = .ok (.if_icmp .ne 10, 3) := by decide +kernel
theorem d_Mod_hyphenRules_65 : decode b_Mod_hyphenRules 65 = .ok (.iload_n 3, 1) := by decide +kernel
theorem d_Mod_hyphenRules_66 : decode b_Mod_hyphenRules 66 = .ok (.bipush 16, 2) := by decide +kernel
theorem d_Mod_hyphenRules_68 : decode b_Mod_hyphenRules 68 = .ok (.iadd, 1) := by decide +kernel
theorem d_Mod_hyphenRules_69 : decode b_Mod_hyphenRules 69 = .ok (.goto 4, 3) := by decide +kernel
theorem d_Mod_hyphenRules_72 : decode b_Mod_hyphenRules 72 = .ok (.iload_n 3, 1) := by decide +kernel
theorem d_Mod_hyphenRules_73 : decode b_Mod_hyphenRules 73 = .ok (.ireturn, 1) := by decide +kernel
theorem d_Mod_check_0 : decode b_Mod_check 0 = .ok (.aload_n 0, 1) := by decide +kernel
theorem d_Mod_check_1 : decode b_Mod_check 1 = .ok (.iload_n 1, 1) := by decide +kernel
theorem d_Mod_check_2 : decode b_Mod_check 2 = .ok (.invokevirtual 167, 3) := by decide +kernel
theorem d_Mod_check_5 : decode b_Mod_check 5 = .ok (.ifCond .eq 7, 3) := by decide +kernel
theorem d_Mod_check_8 : decode b_Mod_check 8 = .ok (.iconst 0, 1) := by decide +kernel
theorem d_Mod_check_9 : decode b_Mod_check 9 = .ok (.goto 4, 3) := by decide +kernel
theorem d_Mod_check_12 : decode b_Mod_check 12 = .ok (.iconst 4, 1) := by decide +kernel
theorem d_Mod_check_13 : decode b_Mod_check 13 = .ok (.istore 4, 2) := by decide +kernel
theorem d_Mod_check_15 : decode b_Mod_check 15 = .ok (.iload_n 2, 1) := by decide +kernel
theorem d_Mod_check_16 : decode b_Mod_check 16 = .ok (.iconst 4, 1) := by decide +kernel
theorem d_Mod_check_17 : decode b_Mod_check 17 = .ok (.invokestatic 119, 3) := by decide +kernel
theorem d_Mod_check_20 : decode b_Mod_check 20 = .ok (.ifCond .eq 14, 3) := by decide +kernel
theorem d_Mod_check_23 : decode b_Mod_check 23 = .ok (.iload 4, 2) := by decide +kernel
theorem d_Mod_check_25 : decode b_Mod_check 25 = .ok (.aload_n 0, 1) := by decide +kernel
theorem d_Mod_check_26 : decode b_Mod_check 26 = .ok (.iload_n 1, 1) := by decide +kernel
theorem d_Mod_check_27 : decode b_Mod_check 27 = .ok (.invokevirtual 170, 3) := by decide +kernel
theorem d_Mod_check_30 : decode b_Mod_check 30 = .ok (.iadd, 1) := by decide +kernel
theorem d_Mod_check_31 : decode b_Mod_check 31 = .ok (.goto 5, 3) := by decide +kernel
theorem d_Mod_check_34 : decode b_Mod_check 34 = .ok (.iload 4, 2) := by decide +kernel
theorem d_Mod_check_36 : decode b_Mod_check 36 = .ok (.istore 4, 2) := by decide +kernel
theorem d_Mod_check_38 : decode b_Mod_check 38 = .ok (.aload_n 0, 1) := by decide +kernel
theorem d_Mod_check_39 : decode b_Mod_check 39 = .ok (.iload_n 1, 1) := by decide +kernel
theorem d_Mod_check_40 : decode b_Mod_check 40 = .ok (.invokevirtual 138, 3) := by decide +kernel
theorem d_Mod_check_43 : decode b_Mod_check 43 = .ok (.aload_n 0, 1) := by decide +kernel
theorem d_Mod_check_44 : decode b_Mod_check 44 = .ok (.invokevirtual 141, 3) := by decide +kernel
theorem d_Mod_check_47 : decode b_Mod_check 47 = .ok (.ifCond .eq 11, 3) := by decide +kernel
theorem d_Mod_check_50 : decode b_Mod_check 50 = .ok (.iload 4, 2) := by decide +kernel
theorem d_Mod_check_52 : decode b_Mod_check 52 = .ok (.bipush 32, 2) := by decide +kernel
theorem d_Mod_check_54 : decode b_Mod_check 54 = .ok (.iadd, 1) := by decide +kernel
theorem d_Mod_check_55 : decode b_Mod_check 55 = .ok (.goto 5, 3) := by decide +kernel
theorem d_Mod_check_58 : decode b_Mod_check 58 = .ok (.iload 4, 2) := by decide +kernel
theorem d_Mod_check_60 : decode b_Mod_check 60 = .ok (.istore 4, 2) := by decide +kernel
theorem d_Mod_check_62 : decode b_Mod_check 62 = .ok (.aload_n 0, 1) := by decide +kernel
theorem d_Mod_check_63 : decode b_Mod_check 63 = .ok (.iload_n 1, 1) := by decide +kernel
theorem d_Mod_check_64 : decode b_Mod_check 64 = .ok (.iconst 0, 1) := by decide +kernel
theorem d_Mod_check_65 : decode b_Mod_check 65 = .ok (.invokevirtual 154, 3) := by decide +kernel
theorem d_Mod_check_68 : decode b_Mod_check 68 = .ok (.invokestatic 45, 3) := by decide +kernel
theorem d_Mod_check_71 : decode b_Mod_check 71 = .ok (.ifCond .le 11, 3) := by decide +kernel
theorem d_Mod_check_74 : decode b_Mod_check 74 = .ok (.iload 4, 2) := by decide +kernel
theorem d_Mod_check_76 : decode b_Mod_check 76 = .ok (.bipush 64, 2) := by decide +kernel
theorem d_Mod_check_78 : decode b_Mod_check 78 = .ok (.iadd, 1) := by decide +kernel
theorem d_Mod_check_79 : decode b_Mod_check 79 = .ok (.goto 5, 3) := by decide +kernel
theorem d_Mod_check_82 : decode b_Mod_check 82 = .ok (.iload 4, 2) := by decide +kernel
theorem d_Mod_check_84 : decode b_Mod_check 84 = .ok (.istore 4, 2) := by decide +kernel
theorem d_Mod_check_86 : decode b_Mod_check 86 = .ok (.aload_n 0, 1) := by decide +kernel
theorem d_Mod_check_87 : decode b_Mod_check 87 = .ok (.iload_n 1, 1) := by decide +kernel
theorem d_Mod_check_88 : decode b_Mod_check 88 = .ok (.iload_n 2, 1) := by decide +kernel
theorem d_Mod_check_89 : decode b_Mod_check 89 = .ok (.invokevirtual 173, 3) := by decide +kernel
theorem d_Mod_check_92 : decode b_Mod_check 92 = .ok (.ifCond .eq 8, 3) := by decide +kernel
theorem d_Mod_check_95 : decode b_Mod_check 95 = .ok (.iload 4, 2) := by decide +kernel
theorem d_Mod_check_97 : decode b_Mod_check 97 = .ok (.goto 9, 3) := by decide +kernel
theorem d_Mod_check_100 : decode b_Mod_check 100 = .ok (.iload 4, 2) := by decide +kernel
theorem d_Mod_check_102 : decode b_Mod_check 102 = .ok (.sipush 128, 3) := by decide +kernel
theorem d_Mod_check_105 : decode b_Mod_check 105 = .ok (.iadd, 1) := by decide +kernel
theorem d_Mod_check_106 : decode b_Mod_check 106 = .ok (.istore 4, 2) := by decide +kernel
theorem d_Mod_check_108 : decode b_Mod_check 108 = .ok (.iload_n 2, 1) := by decide +kernel
theorem d_Mod_check_109 : decode b_Mod_check 109 = .ok (.bipush 8, 2) := by decide +kernel
theorem d_Mod_check_111 : decode b_Mod_check 111 = .ok (.invokestatic 119, 3) := by decide +kernel
theorem d_Mod_check_114 : decode b_Mod_check 114 = .ok (.ifCond .eq 20, 3) := by decide +kernel
theorem d_Mod_check_117 : decode b_Mod_check 117 = .ok (.aload_n 0, 1) := by decide +kernel
theorem d_Mod_check_118 : decode b_Mod_check 118 = .ok (.iload_n 1, 1) := by decide +kernel
theorem d_Mod_check_119 : decode b_Mod_check 119 = .ok (.invokevirtual 176, 3) := by decide +kernel
theorem d_Mod_check_122 : decode b_Mod_check 122 = .ok (.ifCond .ne 12, 3) := by decide +kernel
theorem d_Mod_check_125 : decode b_Mod_check 125 = .ok (.iload 4, 2) := by decide +kernel
theorem d_Mod_check_127 : decode b_Mod_check 127 = .ok (.sipush 256, 3) := by decide +kernel
theorem d_Mod_check_130 : decode b_Mod_check 130 = .ok (.iadd, 1) := by decide +kernel
theorem d_Mod_check_131 : decode b_Mod_check 131 = .ok (.goto 5, 3) := by decide +kernel
theorem d_Mod_check_134 : decode b_Mod_check 134 = .ok (.iload 4, 2) := by decide +kernel
theorem d_Mod_check_136 : decode b_Mod_check 136 = .ok (.istore 4, 2) := by decide +kernel
theorem d_Mod_check_138 : decode b_Mod_check 138 = .ok (.iload_n 3, 1) := by decide +kernel
theorem d_Mod_check_139 : decode b_Mod_check 139 = .ok (.ifCond .eq 20, 3) := by decide +kernel
theorem d_Mod_check_142 : decode b_Mod_check 142 = .ok (.aload_n 0, 1) := by decide +kernel
theorem d_Mod_check_143 : decode b_Mod_check 143 = .ok (.iload_n 1, 1) := by decide +kernel
theorem d_Mod_check_144 : decode b_Mod_check 144 = .ok (.invokevirtual 179, 3) := by decide +kernel
theorem d_Mod_check_147 : decode b_Mod_check 147 = .ok (.ifCond .ne 12, 3) := by decide +kernel
theorem d_Mod_check_150 : decode b_Mod_check 150 = .ok (.iload 4, 2) := by decide +kernel
theorem d_Mod_check_152 : decode b_Mod_check 152 = .ok (.sipush 512, 3) := by decide +kernel
theorem d_Mod_check_155 : decode b_Mod_check 155 = .ok (.iadd, 1) := by decide +kernel
theorem d_Mod_check_156 : decode b_Mod_check 156 = .ok (.goto 5, 3) := by decide +kernel
theorem d_Mod_check_159 : decode b_Mod_check 159 = .ok (.iload 4, 2) := by decide +kernel
theorem d_Mod_check_161 : decode b_Mod_check 161 = .ok (.ireturn, 1) := by decide +kernel
theorem d_Mod_give_0 : decode b_Mod_give 0 = .ok (.aload_n 0, 1) := by decide +kernel
theorem d_Mod_give_1 : decode b_Mod_give 1 = .ok (.iconst 0, 1) := by decide +kernel
theorem d_Mod_give_2 : decode b_Mod_give 2 = .ok (.putfield 77, 3) := by decide +kernel
theorem d_Mod_give_5 : decode b_Mod_give 5 = .ok (.iconst 0, 1) := by decide +kernel
theorem d_Mod_give_6 : decode b_Mod_give 6 = .ok (.istore_n 3, 1) := by decide +kernel
theorem d_Mod_give_7 : decode b_Mod_give 7 = .ok (.iload_n 3, 1) := by decide +kernel
theorem d_Mod_give_8 : decode b_Mod_give 8 = .ok (.aload_n 0, 1) := by decide +kernel
theorem d_Mod_give_9 : decode b_Mod_give 9 = .ok (.getfield 135, 3) := by decide +kernel
theorem d_Mod_give_12 : decode b_Mod_give 12 = .ok (.if_icmp .ge 273, 3) := by decide +kernel
theorem d_Mod_give_15 : decode b_Mod_give 15 = .ok (.aload_n 0, 1) := by decide +kernel
theorem d_Mod_give_16 : decode b_Mod_give 16 = .ok (.iload_n 3, 1) := by decide +kernel
theorem d_Mod_give_17 : decode b_Mod_give 17 = .ok (.invokevirtual 138, 3) := by decide +kernel
theorem d_Mod_give_20 : decode b_Mod_give 20 = .ok (.iconst 0, 1) := by decide +kernel
theorem d_Mod_give_21 : decode b_Mod_give 21 = .ok (.istore 4, 2) := by decide +kernel
theorem d_Mod_give_23 : decode b_Mod_give 23 = .ok (.iconst 0, 1) := by decide +kernel
theorem d_Mod_give_24 : decode b_Mod_give 24 = .ok (.istore 5, 2) := by decide +kernel
theorem d_Mod_give_26 : decode b_Mod_give 26 = .ok (.iload 5, 2) := by decide +kernel
theorem d_Mod_give_28 : decode b_Mod_give 28 = .ok (.aload_n 0, 1) := by decide +kernel
theorem d_Mod_give_29 : decode b_Mod_give 29 = .ok (.getfield 64, 3) := by decide +kernel
theorem d_Mod_give_32 : decode b_Mod_give 32 = .ok (.if_icmp .ge 33, 3) := by decide +kernel
theorem d_Mod_give_35 : decode b_Mod_give 35 = .ok (.iload 4, 2) := by decide +kernel
theorem d_Mod_give_37 : decode b_Mod_give 37 = .ok (.ifCond .ne 15, 3) := by decide +kernel
theorem d_Mod_give_40 : decode b_Mod_give 40 = .ok (.aload_n 0, 1) := by decide +kernel
theorem d_Mod_give_41 : decode b_Mod_give 41 = .ok (.getfield 16, 3) := by decide +kernel
theorem d_Mod_give_44 : decode b_Mod_give 44 = .ok (.iload 5, 2) := by decide +kernel
theorem d_Mod_give_46 : decode b_Mod_give 46 = .ok (.iaload, 1) := by decide +kernel
theorem d_Mod_give_47 : decode b_Mod_give 47 = .ok (.bipush 127, 2) := by decide +kernel
theorem d_Mod_give_49 : decode b_Mod_give 49 = .ok (.if_icmp .le 7, 3) := by decide +kernel
theorem d_Mod_give_52 : decode b_Mod_give 52 = .ok (.iconst 1, 1) := by decide +kernel
theorem d_Mod_give_53 : decode b_Mod_give 53 = .ok (.goto 4, 3) := by decide +kernel
theorem d_Mod_give_56 : decode b_Mod_give 56 = .ok (.iconst 0, 1) := by decide +kernel
theorem d_Mod_give_57 : decode b_Mod_give 57 = .ok (.istore 4, 2) := by decide +kernel
theorem d_Mod_give_59 : decode b_Mod_give 59 = .ok (.iinc 5 1, 3) := by decide +kernel
theorem d_Mod_give_62 : decode b_Mod_give 62 = .ok (.goto (-36), 3) := by decide +kernel
theorem d_Mod_give_65 : decode b_Mod_give 65 = .ok (.aload_n 0, 1) := by decide +kernel
theorem d_Mod_give_66 : decode b_Mod_give 66 = .ok (.getfield 77, 3) := by decide +kernel
theorem d_Mod_give_69 : decode b_Mod_give 69 = .ok (.istore 5, 2) := by decide +kernel
theorem d_Mod_give_71 : decode b_Mod_give 71 = .ok (.iload_n 2, 1) := by decide +kernel
theorem d_Mod_give_72 : decode b_Mod_give 72 = .ok (.ifCond .eq 39, 3) := by decide +kernel
theorem d_Mod_give_75 : decode b_Mod_give 75 = .ok (.iload 4, 2) := by decide +kernel
theorem d_Mod_give_77 : decode b_Mod_give 77 = .ok (.ifCond .eq 34, 3) := by decide +kernel
theorem d_Mod_give_80 : decode b_Mod_give 80 = .ok (.aload_n 0, 1) := by decide +kernel
theorem d_Mod_give_81 : decode b_Mod_give 81 = .ok (.bipush 120, 2) := by decide +kernel
theorem d_Mod_give_83 : decode b_Mod_give 83 = .ok (.invokevirtual 80, 3) := by decide +kernel
theorem d_Mod_give_86 : decode b_Mod_give 86 = .ok (.aload_n 0, 1) := by decide +kernel
theorem d_Mod_give_87 : decode b_Mod_give 87 = .ok (.bipush 110, 2) := by decide +kernel
theorem d_Mod_give_89 : decode b_Mod_give 89 = .ok (.invokevirtual 80, 3) := by decide +kernel
theorem d_Mod_give_92 : decode b_Mod_give 92 = .ok (.aload_n 0, 1) := by decide +kernel
theorem d_Mod_give_93 : decode b_Mod_give 93 = .ok (.bipush 45, 2) := by decide +kernel
theorem d_Mod_give_95 : decode b_Mod_give 95 = .ok (.invokevirtual 80, 3) := by decide +kernel
theorem d_Mod_give_98 : decode b_Mod_give 98 = .ok (.aload_n 0, 1) := by decide +kernel
theorem d_Mod_give_99 : decode b_Mod_give 99 = .ok (.bipush 45, 2) := by decide +kernel
theorem d_Mod_give_101 : decode b_Mod_give 101 = .ok (.invokevirtual 80, 3) := by decide +kernel
theorem d_Mod_give_104 : decode b_Mod_give 104 = .ok (.aload_n 0, 1) := by decide +kernel
theorem d_Mod_give_105 : decode b_Mod_give 105 = .ok (.invokevirtual 182, 3) := by decide +kernel
theorem d_Mod_give_108 : decode b_Mod_give 108 = .ok (.goto 32, 3) := by decide +kernel
theorem d_Mod_give_111 : decode b_Mod_give 111 = .ok (.iconst 0, 1) := by decide +kernel
theorem d_Mod_give_112 : decode b_Mod_give 112 = .ok (.istore 6, 2) := by decide +kernel
theorem d_Mod_give_114 : decode b_Mod_give 114 = .ok (.iload 6, 2) := by decide +kernel
theorem d_Mod_give_116 : decode b_Mod_give 116 = .ok (.aload_n 0, 1) := by decide +kernel
theorem d_Mod_give_117 : decode b_Mod_give 117 = .ok (.getfield 64, 3) := by decide +kernel
theorem d_Mod_give_120 : decode b_Mod_give 120 = .ok (.if_icmp .ge 20, 3) := by decide +kernel
theorem d_Mod_give_123 : decode b_Mod_give 123 = .ok (.aload_n 0, 1) := by decide +kernel
theorem d_Mod_give_124 : decode b_Mod_give 124 = .ok (.aload_n 0, 1) := by decide +kernel
theorem d_Mod_give_125 : decode b_Mod_give 125 = .ok (.getfield 16, 3) := by decide +kernel
theorem d_Mod_give_128 : decode b_Mod_give 128 = .ok (.iload 6, 2) := by decide +kernel
theorem d_Mod_give_130 : decode b_Mod_give 130 = .ok (.iaload, 1) := by decide +kernel
theorem d_Mod_give_131 : decode b_Mod_give 131 = .ok (.invokevirtual 80, 3) := by decide +kernel
theorem d_Mod_give_134 : decode b_Mod_give 134 = .ok (.iinc 6 1, 3) := by decide +kernel
theorem d_Mod_give_137 : decode b_Mod_give 137 = .ok (.goto (-23), 3) := by decide +kernel
theorem d_Mod_give_140 : decode b_Mod_give 140 = .ok (.aload_n 0, 1) := by decide +kernel
theorem d_Mod_give_141 : decode b_Mod_give 141 = .ok (.getfield 77, 3) := by decide +kernel
theorem d_Mod_give_144 : decode b_Mod_give 144 = .ok (.iload 5, 2) := by decide +kernel
theorem d_Mod_give_146 : decode b_Mod_give 146 = .ok (.isub, 1) := by decide +kernel
theorem d_Mod_give_147 : decode b_Mod_give 147 = .ok (.istore 6, 2) := by decide +kernel
theorem d_Mod_give_149 : decode b_Mod_give 149 = .ok (.iload 6, 2) := by decide +kernel
theorem d_Mod_give_151 : decode b_Mod_give 151 = .ok (.bipush 20, 2) := by decide +kernel
theorem d_Mod_give_153 : decode b_Mod_give 153 = .ok (.if_icmp .gt 26, 3) := by decide +kernel
theorem d_Mod_give_156 : decode b_Mod_give 156 = .ok (.iload 6, 2) := by decide +kernel
theorem d_Mod_give_158 : decode b_Mod_give 158 = .ok (.ifCond .ne 25, 3) := by decide +kernel
theorem d_Mod_give_161 : decode b_Mod_give 161 = .ok (.iload_n 3, 1) := by decide +kernel
theorem d_Mod_give_162 : decode b_Mod_give 162 = .ok (.aload_n 0, 1) := by decide +kernel
theorem d_Mod_give_163 : decode b_Mod_give 163 = .ok (.getfield 135, 3) := by decide +kernel
theorem d_Mod_give_166 : decode b_Mod_give 166 = .ok (.iconst 1, 1) := by decide +kernel
theorem d_Mod_give_167 : decode b_Mod_give 167 = .ok (.isub, 1) := by decide +kernel
theorem d_Mod_give_168 : decode b_Mod_give 168 = .ok (.if_icmp .lt 11, 3) := by decide +kernel
theorem d_Mod_give_171 : decode b_Mod_give 171 = .ok (.aload_n 0, 1) := by decide +kernel
theorem d_Mod_give_172 : decode b_Mod_give 172 = .ok (.getfield 135, 3) := by decide +kernel
theorem d_Mod_give_175 : decode b_Mod_give 175 = .ok (.iconst 1, 1) := by decide +kernel
theorem d_Mod_give_176 : decode b_Mod_give 176 = .ok (.if_icmp .ne 7, 3) := by decide +kernel
theorem d_Mod_give_179 : decode b_Mod_give 179 = .ok (.iconst 1, 1) := by decide +kernel
theorem d_Mod_give_180 : decode b_Mod_give 180 = .ok (.goto 4, 3) := by decide +kernel
theorem d_Mod_give_183 : decode b_Mod_give 183 = .ok (.iconst 0, 1) := by decide +kernel
theorem d_Mod_give_184 : decode b_Mod_give 184 = .ok (.istore 7, 2) := by decide +kernel
theorem d_Mod_give_186 : decode b_Mod_give 186 = .ok (.aload_n 0, 1) := by decide +kernel
theorem d_Mod_give_187 : decode b_Mod_give 187 = .ok (.getfield 28, 3) := by decide +kernel
theorem d_Mod_give_190 : decode b_Mod_give 190 = .ok (.iload_n 3, 1) := by decide +kernel
theorem d_Mod_give_191 : decode b_Mod_give 191 = .ok (.iload_n 2, 1) := by decide +kernel
theorem d_Mod_give_192 : decode b_Mod_give 192 = .ok (.ifCond .eq 30, 3) := by decide +kernel
theorem d_Mod_give_195 : decode b_Mod_give 195 = .ok (.iload_n 1, 1) := by decide +kernel
theorem d_Mod_give_196 : decode b_Mod_give 196 = .ok (.bipush 32, 2) := by decide +kernel
theorem d_Mod_give_198 : decode b_Mod_give 198 = .ok (.invokestatic 119, 3) := by decide +kernel
theorem d_Mod_give_201 : decode b_Mod_give 201 = .ok (.ifCond .eq 21, 3) := by decide +kernel
theorem d_Mod_give_204 : decode b_Mod_give 204 = .ok (.iload 7, 2) := by decide +kernel
theorem d_Mod_give_206 : decode b_Mod_give 206 = .ok (.ifCond .eq 16, 3) := by decide +kernel
theorem d_Mod_give_209 : decode b_Mod_give 209 = .ok (.aload_n 0, 1) := by decide +kernel
theorem d_Mod_give_210 : decode b_Mod_give 210 = .ok (.getfield 28, 3) := by decide +kernel
theorem d_Mod_give_213 : decode b_Mod_give 213 = .ok (.iload_n 3, 1) := by decide +kernel
theorem d_Mod_give_214 : decode b_Mod_give 214 = .ok (.iaload, 1) := by decide +kernel
theorem d_Mod_give_215 : decode b_Mod_give 215 = .ok (.sipush 1024, 3) := by decide +kernel
theorem d_Mod_give_218 : decode b_Mod_give 218 = .ok (.ior, 1) := by decide +kernel
theorem d_Mod_give_219 : decode b_Mod_give 219 = .ok (.goto 9, 3) := by decide +kernel
theorem d_Mod_give_222 : decode b_Mod_give 222 = .ok (.aload_n 0, 1) := by decide +kernel
theorem d_Mod_give_223 : decode b_Mod_give 223 = .ok (.getfield 28, 3) := by decide +kernel
theorem d_Mod_give_226 : decode b_Mod_give 226 = .ok (.iload_n 3, 1) := by decide +kernel
theorem d_Mod_give_227 : decode b_Mod_give 227 = .ok (.iaload, 1) := by decide +kernel
theorem d_Mod_give_228 : decode b_Mod_give 228 = .ok (.iastore, 1) := by decide +kernel
theorem d_Mod_give_229 : decode b_Mod_give 229 = .ok (.aload_n 0, 1) := by decide +kernel
theorem d_Mod_give_230 : decode b_Mod_give 230 = .ok (.iload 6, 2) := by decide +kernel
theorem d_Mod_give_232 : decode b_Mod_give 232 = .ok (.ifCond .ne 24, 3) := by decide +kernel
theorem d_Mod_give_235 : decode b_Mod_give 235 = .ok (.iload_n 3, 1) := by decide +kernel
theorem d_Mod_give_236 : decode b_Mod_give 236 = .ok (.aload_n 0, 1) := by decide +kernel
theorem d_Mod_give_237 : decode b_Mod_give 237 = .ok (.getfield 135, 3) := by decide +kernel
theorem d_Mod_give_240 : decode b_Mod_give 240 = .ok (.iconst 1, 1) := by decide +kernel
theorem d_Mod_give_241 : decode b_Mod_give 241 = .ok (.isub, 1) := by decide +kernel
theorem d_Mod_give_242 : decode b_Mod_give 242 = .ok (.if_icmp .ne 14, 3) := by decide +kernel
theorem d_Mod_give_245 : decode b_Mod_give 245 = .ok (.iload_n 3, 1) := by decide +kernel
theorem d_Mod_give_246 : decode b_Mod_give 246 = .ok (.ifCond .le 10, 3) := by decide +kernel
theorem d_Mod_give_249 : decode b_Mod_give 249 = .ok (.iload 5, 2) := by decide +kernel
theorem d_Mod_give_251 : decode b_Mod_give 251 = .ok (.iconst 1, 1) := by decide +kernel
theorem d_Mod_give_252 : decode b_Mod_give 252 = .ok (.isub, 1) := by decide +kernel
theorem d_Mod_give_253 : decode b_Mod_give 253 = .ok (.goto 7, 3) := by decide +kernel
theorem d_Mod_give_256 : decode b_Mod_give 256 = .ok (.aload_n 0, 1) := by decide +kernel
theorem d_Mod_give_257 : decode b_Mod_give 257 = .ok (.getfield 77, 3) := by decide +kernel
theorem d_Mod_give_260 : decode b_Mod_give 260 = .ok (.putfield 185, 3) := by decide +kernel
theorem d_Mod_give_263 : decode b_Mod_give 263 = .ok (.iload_n 3, 1) := by decide +kernel
theorem d_Mod_give_264 : decode b_Mod_give 264 = .ok (.aload_n 0, 1) := by decide +kernel
theorem d_Mod_give_265 : decode b_Mod_give 265 = .ok (.getfield 135, 3) := by decide +kernel
theorem d_Mod_give_268 : decode b_Mod_give 268 = .ok (.iconst 1, 1) := by decide +kernel
theorem d_Mod_give_269 : decode b_Mod_give 269 = .ok (.isub, 1) := by decide +kernel
theorem d_Mod_give_270 : decode b_Mod_give 270 = .ok (.if_icmp .ge 9, 3) := by decide +kernel
theorem d_Mod_give_273 : decode b_Mod_give 273 = .ok (.aload_n 0, 1) := by decide +kernel
theorem d_Mod_give_274 : decode b_Mod_give 274 = .ok (.bipush 46, 2) := by decide +kernel
theorem d_Mod_give_276 : decode b_Mod_give 276 = .ok (.invokevirtual 80, 3) := by decide +kernel
theorem d_Mod_give_279 : decode b_Mod_give 279 = .ok (.iinc 3 1, 3) := by decide +kernel
theorem d_Mod_give_282 : decode b_Mod_give 282 = .ok (.goto (-275), 3) := by decide +kernel
theorem d_Mod_give_285 : decode b_Mod_give 285 = .ok (.return_, 1) := by decide +kernel
theorem d_Mod_process_0 : decode b_Mod_process 0 = .ok (.iload_n 1, 1) := by decide +kernel
theorem d_Mod_process_1 : decode b_Mod_process 1 = .ok (.iconst 0, 1) := by decide +kernel
theorem d_Mod_process_2 : decode b_Mod_process 2 = .ok (.bipush 63, 2) := by decide +kernel
theorem d_Mod_process_4 : decode b_Mod_process 4 = .ok (.invokestatic 41, 3) := by decide +kernel
theorem d_Mod_process_7 : decode b_Mod_process 7 = .ok (.ifCond .ne 5, 3) := by decide +kernel
theorem d_Mod_process_10 : decode b_Mod_process 10 = .ok (.iconst (-1), 1) := by decide +kernel
theorem d_Mod_process_11 : decode b_Mod_process 11 = .ok (.ireturn, 1) := by decide +kernel
theorem d_Mod_process_12 : decode b_Mod_process 12 = .ok (.aload_n 0, 1) := by decide +kernel
theorem d_Mod_process_13 : decode b_Mod_process 13 = .ok (.iload_n 1, 1) := by decide +kernel
theorem d_Mod_process_14 : decode b_Mod_process 14 = .ok (.invokevirtual 188, 3) := by decide +kernel
theorem d_Mod_process_17 : decode b_Mod_process 17 = .ok (.ifCond .eq 7, 3) := by decide +kernel
theorem d_Mod_process_20 : decode b_Mod_process 20 = .ok (.iconst 1, 1) := by decide +kernel
theorem d_Mod_process_21 : decode b_Mod_process 21 = .ok (.goto 4, 3) := by decide +kernel
theorem d_Mod_process_24 : decode b_Mod_process 24 = .ok (.iconst 0, 1) := by decide +kernel
theorem d_Mod_process_25 : decode b_Mod_process 25 = .ok (.istore_n 3, 1) := by decide +kernel
theorem d_Mod_process_26 : decode b_Mod_process 26 = .ok (.aload_n 0, 1) := by decide +kernel
theorem d_Mod_process_27 : decode b_Mod_process 27 = .ok (.invokevirtual 151, 3) := by decide +kernel
theorem d_Mod_process_30 : decode b_Mod_process 30 = .ok (.aload_n 0, 1) := by decide +kernel
theorem d_Mod_process_31 : decode b_Mod_process 31 = .ok (.invokevirtual 191, 3) := by decide +kernel
theorem d_Mod_process_34 : decode b_Mod_process 34 = .ok (.iconst 0, 1) := by decide +kernel
theorem d_Mod_process_35 : decode b_Mod_process 35 = .ok (.istore 4, 2) := by decide +kernel
theorem d_Mod_process_37 : decode b_Mod_process 37 = .ok (.iload 4, 2) := by decide +kernel
theorem d_Mod_process_39 : decode b_Mod_process 39 = .ok (.aload_n 0, 1) := by decide +kernel
theorem d_Mod_process_40 : decode b_Mod_process 40 = .ok (.getfield 135, 3) := by decide +kernel
theorem d_Mod_process_43 : decode b_Mod_process 43 = .ok (.if_icmp .ge 15, 3) := by decide +kernel
theorem d_Mod_process_46 : decode b_Mod_process 46 = .ok (.aload_n 0, 1) := by decide +kernel
theorem d_Mod_process_47 : decode b_Mod_process 47 = .ok (.iload 4, 2) := by decide +kernel
theorem d_Mod_process_49 : decode b_Mod_process 49 = .ok (.invokevirtual 194, 3) := by decide +kernel
theorem d_Mod_process_52 : decode b_Mod_process 52 = .ok (.iinc 4 1, 3) := by decide +kernel
theorem d_Mod_process_55 : decode b_Mod_process 55 = .ok (.goto (-18), 3) := by decide +kernel
theorem d_Mod_process_58 : decode b_Mod_process 58 = .ok (.iload_n 1, 1) := by decide +kernel
theorem d_Mod_process_59 : decode b_Mod_process 59 = .ok (.bipush 16, 2) := by decide +kernel
theorem d_Mod_process_61 : decode b_Mod_process 61 = .ok (.invokestatic 119, 3) := by decide +kernel
theorem d_Mod_process_64 : decode b_Mod_process 64 = .ok (.ifCond .eq 14, 3) := by decide +kernel
theorem d_Mod_process_67 : decode b_Mod_process 67 = .ok (.aload_n 0, 1) := by decide +kernel
theorem d_Mod_process_68 : decode b_Mod_process 68 = .ok (.invokevirtual 197, 3) := by decide +kernel
theorem d_Mod_process_71 : decode b_Mod_process 71 = .ok (.ifCond .eq 7, 3) := by decide +kernel
theorem d_Mod_process_74 : decode b_Mod_process 74 = .ok (.iconst 1, 1) := by decide +kernel
theorem d_Mod_process_75 : decode b_Mod_process 75 = .ok (.goto 4, 3) := by decide +kernel
theorem d_Mod_process_78 : decode b_Mod_process 78 = .ok (.iconst 0, 1) := by decide +kernel
theorem d_Mod_process_79 : decode b_Mod_process 79 = .ok (.istore 4, 2) := by decide +kernel
theorem d_Mod_process_81 : decode b_Mod_process 81 = .ok (.iconst 0, 1) := by decide +kernel
theorem d_Mod_process_82 : decode b_Mod_process 82 = .ok (.istore 5, 2) := by decide +kernel
theorem d_Mod_process_84 : decode b_Mod_process 84 = .ok (.iload 5, 2) := by decide +kernel
theorem d_Mod_process_86 : decode b_Mod_process 86 = .ok (.aload_n 0, 1) := by decide +kernel
theorem d_Mod_process_87 : decode b_Mod_process 87 = .ok (.getfield 135, 3) := by decide +kernel
theorem d_Mod_process_90 : decode b_Mod_process 90 = .ok (.if_icmp .ge 55, 3) := by decide +kernel
theorem d_Mod_process_93 : decode b_Mod_process 93 = .ok (.aload_n 0, 1) := by decide +kernel
theorem d_Mod_process_94 : decode b_Mod_process 94 = .ok (.getfield 28, 3) := by decide +kernel
theorem d_Mod_process_97 : decode b_Mod_process 97 = .ok (.iload 5, 2) := by decide +kernel
theorem d_Mod_process_99 : decode b_Mod_process 99 = .ok (.aload_n 0, 1) := by decide +kernel
theorem d_Mod_process_100 : decode b_Mod_process 100 = .ok (.getfield 28, 3) := by decide +kernel
theorem d_Mod_process_103 : decode b_Mod_process 103 = .ok (.iload 5, 2) := by decide +kernel
theorem d_Mod_process_105 : decode b_Mod_process 105 = .ok (.iaload, 1) := by decide +kernel
theorem d_Mod_process_106 : decode b_Mod_process 106 = .ok (.ifCond .ne 25, 3) := by decide +kernel
theorem d_Mod_process_109 : decode b_Mod_process 109 = .ok (.aload_n 0, 1) := by decide +kernel
theorem d_Mod_process_110 : decode b_Mod_process 110 = .ok (.getfield 25, 3) := by decide +kernel
theorem d_Mod_process_113 : decode b_Mod_process 113 = .ok (.iload 5, 2) := by decide +kernel
theorem d_Mod_process_115 : decode b_Mod_process 115 = .ok (.iaload, 1) := by decide +kernel
theorem d_Mod_process_116 : decode b_Mod_process 116 = .ok (.ifCond .le 15, 3) := by decide +kernel
theorem d_Mod_process_119 : decode b_Mod_process 119 = .ok (.aload_n 0, 1) := by decide +kernel
theorem d_Mod_process_120 : decode b_Mod_process 120 = .ok (.iload 5, 2) := by decide +kernel
theorem d_Mod_process_122 : decode b_Mod_process 122 = .ok (.iload_n 1, 1) := by decide +kernel
theorem d_Mod_process_123 : decode b_Mod_process 123 = .ok (.iload 4, 2) := by decide +kernel
theorem d_Mod_process_125 : decode b_Mod_process 125 = .ok (.invokevirtual 200, 3) := by decide +kernel
theorem d_Mod_process_128 : decode b_Mod_process 128 = .ok (.goto 10, 3) := by decide +kernel
theorem d_Mod_process_131 : decode b_Mod_process 131 = .ok (.aload_n 0, 1) := by decide +kernel
theorem d_Mod_process_132 : decode b_Mod_process 132 = .ok (.getfield 28, 3) := by decide +kernel
theorem d_Mod_process_135 : decode b_Mod_process 135 = .ok (.iload 5, 2) := by decide +kernel
theorem d_Mod_process_137 : decode b_Mod_process 137 = .ok (.iaload, 1) := by decide +kernel
theorem d_Mod_process_138 : decode b_Mod_process 138 = .ok (.iastore, 1) := by decide +kernel
theorem d_Mod_process_139 : decode b_Mod_process 139 = .ok (.iinc 5 1, 3) := by decide +kernel
theorem d_Mod_process_142 : decode b_Mod_process 142 = .ok (.goto (-58), 3) := by decide +kernel
theorem d_Mod_process_145 : decode b_Mod_process 145 = .ok (.aload_n 0, 1) := by decide +kernel
theorem d_Mod_process_146 : decode b_Mod_process 146 = .ok (.iload_n 1, 1) := by decide +kernel
theorem d_Mod_process_147 : decode b_Mod_process 147 = .ok (.iload_n 2, 1) := by decide +kernel
theorem d_Mod_process_148 : decode b_Mod_process 148 = .ok (.invokevirtual 204, 3) := by decide +kernel
theorem d_Mod_process_151 : decode b_Mod_process 151 = .ok (.iconst 0, 1) := by decide +kernel
theorem d_Mod_process_152 : decode b_Mod_process 152 = .ok (.istore 5, 2) := by decide +kernel
theorem d_Mod_process_154 : decode b_Mod_process 154 = .ok (.iload 5, 2) := by decide +kernel
theorem d_Mod_process_156 : decode b_Mod_process 156 = .ok (.aload_n 0, 1) := by decide +kernel
theorem d_Mod_process_157 : decode b_Mod_process 157 = .ok (.getfield 135, 3) := by decide +kernel
theorem d_Mod_process_160 : decode b_Mod_process 160 = .ok (.if_icmp .ge 19, 3) := by decide +kernel
theorem d_Mod_process_163 : decode b_Mod_process 163 = .ok (.iload_n 3, 1) := by decide +kernel
theorem d_Mod_process_164 : decode b_Mod_process 164 = .ok (.aload_n 0, 1) := by decide +kernel
theorem d_Mod_process_165 : decode b_Mod_process 165 = .ok (.getfield 28, 3) := by decide +kernel
theorem d_Mod_process_168 : decode b_Mod_process 168 = .ok (.iload 5, 2) := by decide +kernel
theorem d_Mod_process_170 : decode b_Mod_process 170 = .ok (.iaload, 1) := by decide +kernel
theorem d_Mod_process_171 : decode b_Mod_process 171 = .ok (.ior, 1) := by decide +kernel
theorem d_Mod_process_172 : decode b_Mod_process 172 = .ok (.istore_n 3, 1) := by decide +kernel
theorem d_Mod_process_173 : decode b_Mod_process 173 = .ok (.iinc 5 1, 3) := by decide +kernel
theorem d_Mod_process_176 : decode b_Mod_process 176 = .ok (.goto (-22), 3) := by decide +kernel
theorem d_Mod_process_179 : decode b_Mod_process 179 = .ok (.iload_n 2, 1) := by decide +kernel
theorem d_Mod_process_180 : decode b_Mod_process 180 = .ok (.ifCond .eq 36, 3) := by decide +kernel
theorem d_Mod_process_183 : decode b_Mod_process 183 = .ok (.iload_n 1, 1) := by decide +kernel
theorem d_Mod_process_184 : decode b_Mod_process 184 = .ok (.bipush 32, 2) := by decide +kernel
theorem d_Mod_process_186 : decode b_Mod_process 186 = .ok (.invokestatic 119, 3) := by decide +kernel
theorem d_Mod_process_189 : decode b_Mod_process 189 = .ok (.ifCond .eq 27, 3) := by decide +kernel
theorem d_Mod_process_192 : decode b_Mod_process 192 = .ok (.aload_n 0, 1) := by decide +kernel
theorem d_Mod_process_193 : decode b_Mod_process 193 = .ok (.getfield 185, 3) := by decide +kernel
theorem d_Mod_process_196 : decode b_Mod_process 196 = .ok (.ifCond .eq 12, 3) := by decide +kernel
theorem d_Mod_process_199 : decode b_Mod_process 199 = .ok (.aload_n 0, 1) := by decide +kernel
theorem d_Mod_process_200 : decode b_Mod_process 200 = .ok (.getfield 185, 3) := by decide +kernel
theorem d_Mod_process_203 : decode b_Mod_process 203 = .ok (.bipush 60, 2) := by decide +kernel
theorem d_Mod_process_205 : decode b_Mod_process 205 = .ok (.if_icmp .le 11, 3) := by decide +kernel
theorem d_Mod_process_208 : decode b_Mod_process 208 = .ok (.iload_n 3, 1) := by decide +kernel
theorem d_Mod_process_209 : decode b_Mod_process 209 = .ok (.sipush 1024, 3) := by decide +kernel
theorem d_Mod_process_212 : decode b_Mod_process 212 = .ok (.ior, 1) := by decide +kernel
theorem d_Mod_process_213 : decode b_Mod_process 213 = .ok (.goto 4, 3) := by decide +kernel
theorem d_Mod_process_216 : decode b_Mod_process 216 = .ok (.iload_n 3, 1) := by decide +kernel
theorem d_Mod_process_217 : decode b_Mod_process 217 = .ok (.ireturn, 1) := by decide +kernel
theorem d_Mod_length_0 : decode b_Mod_length 0 = .ok (.aload_n 0, 1) := by decide +kernel
theorem d_Mod_length_1 : decode b_Mod_length 1 = .ok (.getfield 77, 3) := by decide +kernel
theorem d_Mod_length_4 : decode b_Mod_length 4 = .ok (.ireturn, 1) := by decide +kernel
theorem d_Mod_at_0 : decode b_Mod_at 0 = .ok (.iload_n 1, 1) := by decide +kernel
theorem d_Mod_at_1 : decode b_Mod_at 1 = .ok (.iconst 0, 1) := by decide +kernel
theorem d_Mod_at_2 : decode b_Mod_at 2 = .ok (.aload_n 0, 1) := by decide +kernel
theorem d_Mod_at_3 : decode b_Mod_at 3 = .ok (.getfield 77, 3) := by decide +kernel
theorem d_Mod_at_6 : decode b_Mod_at 6 = .ok (.iconst 1, 1) := by decide +kernel
theorem d_Mod_at_7 : decode b_Mod_at 7 = .ok (.isub, 1) := by decide +kernel
theorem d_Mod_at_8 : decode b_Mod_at 8 = .ok (.invokestatic 41, 3) := by decide +kernel
theorem d_Mod_at_11 : decode b_Mod_at 11 = .ok (.ifCond .eq 12, 3) := by decide +kernel
theorem d_Mod_at_14 : decode b_Mod_at 14 = .ok (.aload_n 0, 1) := by decide +kernel
theorem d_Mod_at_15 : decode b_Mod_at 15 = .ok (.getfield 13, 3) := by decide +kernel
theorem d_Mod_at_18 : decode b_Mod_at 18 = .ok (.iload_n 1, 1) := by decide +kernel
theorem d_Mod_at_19 : decode b_Mod_at 19 = .ok (.iaload, 1) := by decide +kernel
theorem d_Mod_at_20 : decode b_Mod_at 20 = .ok (.goto 4, 3) := by decide +kernel
theorem d_Mod_at_23 : decode b_Mod_at 23 = .ok (.iconst (-1), 1) := by decide +kernel
theorem d_Mod_at_24 : decode b_Mod_at 24 = .ok (.ireturn, 1) := by decide +kernel
theorem d_Mod_labels_0 : decode b_Mod_labels 0 = .ok (.aload_n 0, 1) := by decide +kernel
theorem d_Mod_labels_1 : decode b_Mod_labels 1 = .ok (.getfield 135, 3) := by decide +kernel
theorem d_Mod_labels_4 : decode b_Mod_labels 4 = .ok (.ireturn, 1) := by decide +kernel
theorem d_Mod_broken_0 : decode b_Mod_broken 0 = .ok (.iload_n 1, 1) := by decide +kernel
theorem d_Mod_broken_1 : decode b_Mod_broken 1 = .ok (.iconst 0, 1) := by decide +kernel
theorem d_Mod_broken_2 : decode b_Mod_broken 2 = .ok (.aload_n 0, 1) := by decide +kernel
theorem d_Mod_broken_3 : decode b_Mod_broken 3 = .ok (.getfield 135, 3) := by decide +kernel
theorem d_Mod_broken_6 : decode b_Mod_broken 6 = .ok (.iconst 1, 1) := by decide +kernel
theorem d_Mod_broken_7 : decode b_Mod_broken 7 = .ok (.isub, 1) := by decide +kernel
theorem d_Mod_broken_8 : decode b_Mod_broken 8 = .ok (.invokestatic 41, 3) := by decide +kernel
theorem d_Mod_broken_11 : decode b_Mod_broken 11 = .ok (.ifCond .eq 12, 3) := by decide +kernel
theorem d_Mod_broken_14 : decode b_Mod_broken 14 = .ok (.aload_n 0, 1) := by decide +kernel
theorem d_Mod_broken_15 : decode b_Mod_broken 15 = .ok (.getfield 28, 3) := by decide +kernel
theorem d_Mod_broken_18 : decode b_Mod_broken 18 = .ok (.iload_n 1, 1) := by decide +kernel
theorem d_Mod_broken_19 : decode b_Mod_broken 19 = .ok (.iaload, 1) := by decide +kernel
theorem d_Mod_broken_20 : decode b_Mod_broken 20 = .ok (.goto 4, 3) := by decide +kernel
theorem d_Mod_broken_23 : decode b_Mod_broken 23 = .ok (.iconst (-1), 1) := by decide +kernel
theorem d_Mod_broken_24 : decode b_Mod_broken 24 = .ok (.ireturn, 1) := by decide +kernel
theorem d_Mod_pack_0 : decode b_Mod_pack 0 = .ok (.aload_n 0, 1) := by decide +kernel
theorem d_Mod_pack_1 : decode b_Mod_pack 1 = .ok (.invokevirtual 208, 3) := by decide +kernel
theorem d_Mod_pack_4 : decode b_Mod_pack 4 = .ok (.aload_n 0, 1) := by decide +kernel
theorem d_Mod_pack_5 : decode b_Mod_pack 5 = .ok (.iconst 0, 1) := by decide +kernel
theorem d_Mod_pack_6 : decode b_Mod_pack 6 = .ok (.putfield 77, 3) := by decide +kernel
theorem d_Mod_pack_9 : decode b_Mod_pack 9 = .ok (.aload_n 0, 1) := by decide +kernel
theorem d_Mod_pack_10 : decode b_Mod_pack 10 = .ok (.invokevirtual 182, 3) := by decide +kernel
theorem d_Mod_pack_13 : decode b_Mod_pack 13 = .ok (.aload_n 0, 1) := by decide +kernel
theorem d_Mod_pack_14 : decode b_Mod_pack 14 = .ok (.getfield 77, 3) := by decide +kernel
theorem d_Mod_pack_17 : decode b_Mod_pack 17 = .ok (.ireturn, 1) := by decide +kernel
theorem d_Mod_unpack_0 : decode b_Mod_unpack 0 = .ok (.aload_n 0, 1) := by decide +kernel
theorem d_Mod_unpack_1 : decode b_Mod_unpack 1 = .ok (.invokevirtual 208, 3) := by decide +kernel
theorem d_Mod_unpack_4 : decode b_Mod_unpack 4 = .ok (.aload_n 0, 1) := by decide +kernel
theorem d_Mod_unpack_5 : decode b_Mod_unpack 5 = .ok (.iconst 0, 1) := by decide +kernel
theorem d_Mod_unpack_6 : decode b_Mod_unpack 6 = .ok (.invokevirtual 145, 3) := by decide +kernel
theorem d_Mod_unpack_9 : decode b_Mod_unpack 9 = .ok (.ifCond .ne 5, 3) := by decide +kernel
theorem d_Mod_unpack_12 : decode b_Mod_unpack 12 = .ok (.iconst 0, 1) := by decide +kernel
theorem d_Mod_unpack_13 : decode b_Mod_unpack 13 = .ok (.ireturn, 1) := by decide +kernel
theorem d_Mod_unpack_14 : decode b_Mod_unpack 14 = .ok (.aload_n 0, 1) := by decide +kernel
theorem d_Mod_unpack_15 : decode b_Mod_unpack 15 = .ok (.invokevirtual 211, 3) := by decide +kernel
theorem d_Mod_unpack_18 : decode b_Mod_unpack 18 = .ok (.iconst 1, 1) := by decide +kernel
theorem d_Mod_unpack_19 : decode b_Mod_unpack 19 = .ok (.ireturn, 1) := by decide +kernel
theorem d_Mod_compose_0 : decode b_Mod_compose 0 = .ok (.aload_n 0, 1) := by decide +kernel
theorem d_Mod_compose_1 : decode b_Mod_compose 1 = .ok (.invokevirtual 208, 3) := by decide +kernel
theorem d_Mod_compose_4 : decode b_Mod_compose 4 = .ok (.aload_n 0, 1) := by decide +kernel
theorem d_Mod_compose_5 : decode b_Mod_compose 5 = .ok (.invokevirtual 151, 3) := by decide +kernel
theorem d_Mod_compose_8 : decode b_Mod_compose 8 = .ok (.aload_n 0, 1) := by decide +kernel
theorem d_Mod_compose_9 : decode b_Mod_compose 9 = .ok (.invokevirtual 211, 3) := by decide +kernel
theorem d_Mod_compose_12 : decode b_Mod_compose 12 = .ok (.aload_n 0, 1) := by decide +kernel
theorem d_Mod_compose_13 : decode b_Mod_compose 13 = .ok (.getfield 77, 3) := by decide +kernel
theorem d_Mod_compose_16 : decode b_Mod_compose 16 = .ok (.ireturn, 1) := by decide +kernel
end
section
theorem d_law_0 : decode code 0 = .ok (.new 7, 3) := by decide +kernel
theorem d_law_3 : decode code 3 = .ok (.dup, 1) := by decide +kernel
theorem d_law_4 : decode code 4 = .ok (.invokespecial 9, 3) := by decide +kernel
theorem d_law_7 : decode code 7 = .ok (.astore_n 1, 1) := by decide +kernel
theorem d_law_8 : decode code 8 = .ok (.new 10, 3) := by decide +kernel
theorem d_law_11 : decode code 11 = .ok (.dup, 1) := by decide +kernel
theorem d_law_12 : decode code 12 = .ok (.invokespecial 12, 3) := by decide +kernel
theorem d_law_15 : decode code 15 = .ok (.astore_n 2, 1) := by decide +kernel
theorem d_law_16 : decode code 16 = .ok (.iconst 0, 1) := by decide +kernel
theorem d_law_17 : decode code 17 = .ok (.istore_n 3, 1) := by decide +kernel
theorem d_law_18 : decode code 18 = .ok (.iload_n 3, 1) := by decide +kernel
theorem d_law_19 : decode code 19 = .ok (.aload_n 0, 1) := by decide +kernel
theorem d_law_20 : decode code 20 = .ok (.arraylength, 1) := by decide +kernel
theorem d_law_21 : decode code 21 = .ok (.iconst 4, 1) := by decide +kernel
theorem d_law_22 : decode code 22 = .ok (.isub, 1) := by decide +kernel
theorem d_law_23 : decode code 23 = .ok (.if_icmp .gt 334, 3) := by decide +kernel
theorem d_law_26 : decode code 26 = .ok (.aload_n 0, 1) := by decide +kernel
theorem d_law_27 : decode code 27 = .ok (.iload_n 3, 1) := by decide +kernel
theorem d_law_28 : decode code 28 = .ok (.iaload, 1) := by decide +kernel
theorem d_law_29 : decode code 29 = .ok (.bipush 15, 2) := by decide +kernel
theorem d_law_31 : decode code 31 = .ok (.iand, 1) := by decide +kernel
theorem d_law_32 : decode code 32 = .ok (.tableswitch 319 0 10 #[60, 83, 146, 159, 208, 221, 244, 257, 280, 293, 306], 60) := by decide +kernel
theorem d_law_92 : decode code 92 = .ok (.aload_n 1, 1) := by decide +kernel
theorem d_law_93 : decode code 93 = .ok (.aload_n 0, 1) := by decide +kernel
theorem d_law_94 : decode code 94 = .ok (.iload_n 3, 1) := by decide +kernel
theorem d_law_95 : decode code 95 = .ok (.iconst 1, 1) := by decide +kernel
theorem d_law_96 : decode code 96 = .ok (.iadd, 1) := by decide +kernel
theorem d_law_97 : decode code 97 = .ok (.iaload, 1) := by decide +kernel
theorem d_law_98 : decode code 98 = .ok (.invokevirtual 13, 3) := by decide +kernel
theorem d_law_101 : decode code 101 = .ok (.aload_n 2, 1) := by decide +kernel
theorem d_law_102 : decode code 102 = .ok (.aload_n 0, 1) := by decide +kernel
theorem d_law_103 : decode code 103 = .ok (.iload_n 3, 1) := by decide +kernel
theorem d_law_104 : decode code 104 = .ok (.iconst 1, 1) := by decide +kernel
theorem d_law_105 : decode code 105 = .ok (.iadd, 1) := by decide +kernel
theorem d_law_106 : decode code 106 = .ok (.iaload, 1) := by decide +kernel
theorem d_law_107 : decode code 107 = .ok (.invokevirtual 17, 3) := by decide +kernel
theorem d_law_110 : decode code 110 = .ok (.if_icmp .eq 241, 3) := by decide +kernel
theorem d_law_113 : decode code 113 = .ok (.iconst 0, 1) := by decide +kernel
theorem d_law_114 : decode code 114 = .ok (.ireturn, 1) := by decide +kernel
theorem d_law_115 : decode code 115 = .ok (.aload_n 1, 1) := by decide +kernel
theorem d_law_116 : decode code 116 = .ok (.aload_n 0, 1) := by decide +kernel
theorem d_law_117 : decode code 117 = .ok (.iload_n 3, 1) := by decide +kernel
theorem d_law_118 : decode code 118 = .ok (.iconst 1, 1) := by decide +kernel
theorem d_law_119 : decode code 119 = .ok (.iadd, 1) := by decide +kernel
theorem d_law_120 : decode code 120 = .ok (.iaload, 1) := by decide +kernel
theorem d_law_121 : decode code 121 = .ok (.i2l, 1) := by decide +kernel
theorem d_law_122 : decode code 122 = .ok (.bipush 32, 2) := by decide +kernel
theorem d_law_124 : decode code 124 = .ok (.lshl, 1) := by decide +kernel
theorem d_law_125 : decode code 125 = .ok (.aload_n 0, 1) := by decide +kernel
theorem d_law_126 : decode code 126 = .ok (.iload_n 3, 1) := by decide +kernel
theorem d_law_127 : decode code 127 = .ok (.iconst 2, 1) := by decide +kernel
theorem d_law_128 : decode code 128 = .ok (.iadd, 1) := by decide +kernel
theorem d_law_129 : decode code 129 = .ok (.iaload, 1) := by decide +kernel
theorem d_law_130 : decode code 130 = .ok (.i2l, 1) := by decide +kernel
theorem d_law_131 : decode code 131 = .ok (.ldc2_w 18, 3) := by decide +kernel
theorem d_law_134 : decode code 134 = .ok (.land, 1) := by decide +kernel
theorem d_law_135 : decode code 135 = .ok (.lor, 1) := by decide +kernel
theorem d_law_136 : decode code 136 = .ok (.aload_n 0, 1) := by decide +kernel
theorem d_law_137 : decode code 137 = .ok (.iload_n 3, 1) := by decide +kernel
theorem d_law_138 : decode code 138 = .ok (.iconst 3, 1) := by decide +kernel
theorem d_law_139 : decode code 139 = .ok (.iadd, 1) := by decide +kernel
theorem d_law_140 : decode code 140 = .ok (.iaload, 1) := by decide +kernel
theorem d_law_141 : decode code 141 = .ok (.invokevirtual 20, 3) := by decide +kernel
theorem d_law_144 : decode code 144 = .ok (.aload_n 2, 1) := by decide +kernel
theorem d_law_145 : decode code 145 = .ok (.aload_n 0, 1) := by decide +kernel
theorem d_law_146 : decode code 146 = .ok (.iload_n 3, 1) := by decide +kernel
theorem d_law_147 : decode code 147 = .ok (.iconst 1, 1) := by decide +kernel
theorem d_law_148 : decode code 148 = .ok (.iadd, 1) := by decide +kernel
theorem d_law_149 : decode code 149 = .ok (.iaload, 1) := by decide +kernel
theorem d_law_150 : decode code 150 = .ok (.i2l, 1) := by decide +kernel
theorem d_law_151 : decode code 151 = .ok (.bipush 32, 2) := by decide +kernel
theorem d_law_153 : decode code 153 = .ok (.lshl, 1) := by decide +kernel
theorem d_law_154 : decode code 154 = .ok (.aload_n 0, 1) := by decide +kernel
theorem d_law_155 : decode code 155 = .ok (.iload_n 3, 1) := by decide +kernel
theorem d_law_156 : decode code 156 = .ok (.iconst 2, 1) := by decide +kernel
theorem d_law_157 : decode code 157 = .ok (.iadd, 1) := by decide +kernel
theorem d_law_158 : decode code 158 = .ok (.iaload, 1) := by decide +kernel
theorem d_law_159 : decode code 159 = .ok (.i2l, 1) := by decide +kernel
theorem d_law_160 : decode code 160 = .ok (.ldc2_w 18, 3) := by decide +kernel
theorem d_law_163 : decode code 163 = .ok (.land, 1) := by decide +kernel
theorem d_law_164 : decode code 164 = .ok (.lor, 1) := by decide +kernel
theorem d_law_165 : decode code 165 = .ok (.aload_n 0, 1) := by decide +kernel
theorem d_law_166 : decode code 166 = .ok (.iload_n 3, 1) := by decide +kernel
theorem d_law_167 : decode code 167 = .ok (.iconst 3, 1) := by decide +kernel
theorem d_law_168 : decode code 168 = .ok (.iadd, 1) := by decide +kernel
theorem d_law_169 : decode code 169 = .ok (.iaload, 1) := by decide +kernel
theorem d_law_170 : decode code 170 = .ok (.invokevirtual 24, 3) := by decide +kernel
theorem d_law_173 : decode code 173 = .ok (.if_icmp .eq 178, 3) := by decide +kernel
theorem d_law_176 : decode code 176 = .ok (.iconst 0, 1) := by decide +kernel
theorem d_law_177 : decode code 177 = .ok (.ireturn, 1) := by decide +kernel
theorem d_law_178 : decode code 178 = .ok (.aload_n 1, 1) := by decide +kernel
theorem d_law_179 : decode code 179 = .ok (.invokevirtual 25, 3) := by decide +kernel
theorem d_law_182 : decode code 182 = .ok (.aload_n 2, 1) := by decide +kernel
theorem d_law_183 : decode code 183 = .ok (.invokevirtual 29, 3) := by decide +kernel
theorem d_law_186 : decode code 186 = .ok (.if_icmp .eq 165, 3) := by decide +kernel
theorem d_law_189 : decode code 189 = .ok (.iconst 0, 1) := by decide +kernel
theorem d_law_190 : decode code 190 = .ok (.ireturn, 1) := by decide +kernel
theorem d_law_191 : decode code 191 = .ok (.aload_n 1, 1) := by decide +kernel
theorem d_law_192 : decode code 192 = .ok (.aload_n 0, 1) := by decide +kernel
theorem d_law_193 : decode code 193 = .ok (.iload_n 3, 1) := by decide +kernel
theorem d_law_194 : decode code 194 = .ok (.iconst 1, 1) := by decide +kernel
theorem d_law_195 : decode code 195 = .ok (.iadd, 1) := by decide +kernel
theorem d_law_196 : decode code 196 = .ok (.iaload, 1) := by decide +kernel
theorem d_law_197 : decode code 197 = .ok (.aload_n 0, 1) := by decide +kernel
theorem d_law_198 : decode code 198 = .ok (.iload_n 3, 1) := by decide +kernel
theorem d_law_199 : decode code 199 = .ok (.iconst 2, 1) := by decide +kernel
theorem d_law_200 : decode code 200 = .ok (.iadd, 1) := by decide +kernel
theorem d_law_201 : decode code 201 = .ok (.iaload, 1) := by decide +kernel
theorem d_law_202 : decode code 202 = .ok (.ifCond .eq 7, 3) := by decide +kernel
theorem d_law_205 : decode code 205 = .ok (.iconst 1, 1) := by decide +kernel
theorem d_law_206 : decode code 206 = .ok (.goto 4, 3) := by decide +kernel
theorem d_law_209 : decode code 209 = .ok (.iconst 0, 1) := by decide +kernel
theorem d_law_210 : decode code 210 = .ok (.invokevirtual 30, 3) := by decide +kernel
theorem d_law_213 : decode code 213 = .ok (.aload_n 2, 1) := by decide +kernel
theorem d_law_214 : decode code 214 = .ok (.aload_n 0, 1) := by decide +kernel
theorem d_law_215 : decode code 215 = .ok (.iload_n 3, 1) := by decide +kernel
theorem d_law_216 : decode code 216 = .ok (.iconst 1, 1) := by decide +kernel
theorem d_law_217 : decode code 217 = .ok (.iadd, 1) := by decide +kernel
theorem d_law_218 : decode code 218 = .ok (.iaload, 1) := by decide +kernel
theorem d_law_219 : decode code 219 = .ok (.aload_n 0, 1) := by decide +kernel
theorem d_law_220 : decode code 220 = .ok (.iload_n 3, 1) := by decide +kernel
theorem d_law_221 : decode code 221 = .ok (.iconst 2, 1) := by decide +kernel
theorem d_law_222 : decode code 222 = .ok (.iadd, 1) := by decide +kernel
theorem d_law_223 : decode code 223 = .ok (.iaload, 1) := by decide +kernel
theorem d_law_224 : decode code 224 = .ok (.ifCond .eq 7, 3) := by decide +kernel
theorem d_law_227 : decode code 227 = .ok (.iconst 1, 1) := by decide +kernel
theorem d_law_228 : decode code 228 = .ok (.goto 4, 3) := by decide +kernel
theorem d_law_231 : decode code 231 = .ok (.iconst 0, 1) := by decide +kernel
theorem d_law_232 : decode code 232 = .ok (.invokevirtual 34, 3) := by decide +kernel
theorem d_law_235 : decode code 235 = .ok (.if_icmp .eq 116, 3) := by decide +kernel
theorem d_law_238 : decode code 238 = .ok (.iconst 0, 1) := by decide +kernel
theorem d_law_239 : decode code 239 = .ok (.ireturn, 1) := by decide +kernel
theorem d_law_240 : decode code 240 = .ok (.aload_n 1, 1) := by decide +kernel
theorem d_law_241 : decode code 241 = .ok (.invokevirtual 35, 3) := by decide +kernel
theorem d_law_244 : decode code 244 = .ok (.aload_n 2, 1) := by decide +kernel
theorem d_law_245 : decode code 245 = .ok (.invokevirtual 38, 3) := by decide +kernel
theorem d_law_248 : decode code 248 = .ok (.if_icmp .eq 103, 3) := by decide +kernel
theorem d_law_251 : decode code 251 = .ok (.iconst 0, 1) := by decide +kernel
theorem d_law_252 : decode code 252 = .ok (.ireturn, 1) := by decide +kernel
theorem d_law_253 : decode code 253 = .ok (.aload_n 1, 1) := by decide +kernel
theorem d_law_254 : decode code 254 = .ok (.aload_n 0, 1) := by decide +kernel
theorem d_law_255 : decode code 255 = .ok (.iload_n 3, 1) := by decide +kernel
theorem d_law_256 : decode code 256 = .ok (.iconst 1, 1) := by decide +kernel
theorem d_law_257 : decode code 257 = .ok (.iadd, 1) := by decide +kernel
theorem d_law_258 : decode code 258 = .ok (.iaload, 1) := by decide +kernel
theorem d_law_259 : decode code 259 = .ok (.invokevirtual 39, 3) := by decide +kernel
theorem d_law_262 : decode code 262 = .ok (.aload_n 2, 1) := by decide +kernel
theorem d_law_263 : decode code 263 = .ok (.aload_n 0, 1) := by decide +kernel
theorem d_law_264 : decode code 264 = .ok (.iload_n 3, 1) := by decide +kernel
theorem d_law_265 : decode code 265 = .ok (.iconst 1, 1) := by decide +kernel
theorem d_law_266 : decode code 266 = .ok (.iadd, 1) := by decide +kernel
theorem d_law_267 : decode code 267 = .ok (.iaload, 1) := by decide +kernel
theorem d_law_268 : decode code 268 = .ok (.invokevirtual 43, 3) := by decide +kernel
theorem d_law_271 : decode code 271 = .ok (.if_icmp .eq 80, 3) := by decide +kernel
theorem d_law_274 : decode code 274 = .ok (.iconst 0, 1) := by decide +kernel
theorem d_law_275 : decode code 275 = .ok (.ireturn, 1) := by decide +kernel
theorem d_law_276 : decode code 276 = .ok (.aload_n 1, 1) := by decide +kernel
theorem d_law_277 : decode code 277 = .ok (.invokevirtual 44, 3) := by decide +kernel
theorem d_law_280 : decode code 280 = .ok (.aload_n 2, 1) := by decide +kernel
theorem d_law_281 : decode code 281 = .ok (.invokevirtual 47, 3) := by decide +kernel
theorem d_law_284 : decode code 284 = .ok (.if_icmp .eq 67, 3) := by decide +kernel
theorem d_law_287 : decode code 287 = .ok (.iconst 0, 1) := by decide +kernel
theorem d_law_288 : decode code 288 = .ok (.ireturn, 1) := by decide +kernel
theorem d_law_289 : decode code 289 = .ok (.aload_n 1, 1) := by decide +kernel
theorem d_law_290 : decode code 290 = .ok (.aload_n 0, 1) := by decide +kernel
theorem d_law_291 : decode code 291 = .ok (.iload_n 3, 1) := by decide +kernel
theorem d_law_292 : decode code 292 = .ok (.iconst 1, 1) := by decide +kernel
theorem d_law_293 : decode code 293 = .ok (.iadd, 1) := by decide +kernel
theorem d_law_294 : decode code 294 = .ok (.iaload, 1) := by decide +kernel
theorem d_law_295 : decode code 295 = .ok (.invokevirtual 48, 3) := by decide +kernel
theorem d_law_298 : decode code 298 = .ok (.aload_n 2, 1) := by decide +kernel
theorem d_law_299 : decode code 299 = .ok (.aload_n 0, 1) := by decide +kernel
theorem d_law_300 : decode code 300 = .ok (.iload_n 3, 1) := by decide +kernel
theorem d_law_301 : decode code 301 = .ok (.iconst 1, 1) := by decide +kernel
theorem d_law_302 : decode code 302 = .ok (.iadd, 1) := by decide +kernel
theorem d_law_303 : decode code 303 = .ok (.iaload, 1) := by decide +kernel
theorem d_law_304 : decode code 304 = .ok (.invokevirtual 51, 3) := by decide +kernel
theorem d_law_307 : decode code 307 = .ok (.if_icmp .eq 44, 3) := by decide +kernel
theorem d_law_310 : decode code 310 = .ok (.iconst 0, 1) := by decide +kernel
theorem d_law_311 : decode code 311 = .ok (.ireturn, 1) := by decide +kernel
theorem d_law_312 : decode code 312 = .ok (.aload_n 1, 1) := by decide +kernel
theorem d_law_313 : decode code 313 = .ok (.invokevirtual 52, 3) := by decide +kernel
theorem d_law_316 : decode code 316 = .ok (.aload_n 2, 1) := by decide +kernel
theorem d_law_317 : decode code 317 = .ok (.invokevirtual 55, 3) := by decide +kernel
theorem d_law_320 : decode code 320 = .ok (.if_icmp .eq 31, 3) := by decide +kernel
theorem d_law_323 : decode code 323 = .ok (.iconst 0, 1) := by decide +kernel
theorem d_law_324 : decode code 324 = .ok (.ireturn, 1) := by decide +kernel
theorem d_law_325 : decode code 325 = .ok (.aload_n 1, 1) := by decide +kernel
theorem d_law_326 : decode code 326 = .ok (.invokevirtual 56, 3) := by decide +kernel
theorem d_law_329 : decode code 329 = .ok (.aload_n 2, 1) := by decide +kernel
theorem d_law_330 : decode code 330 = .ok (.invokevirtual 60, 3) := by decide +kernel
theorem d_law_333 : decode code 333 = .ok (.if_icmp .eq 18, 3) := by decide +kernel
theorem d_law_336 : decode code 336 = .ok (.iconst 0, 1) := by decide +kernel
theorem d_law_337 : decode code 337 = .ok (.ireturn, 1) := by decide +kernel
theorem d_law_338 : decode code 338 = .ok (.aload_n 1, 1) := by decide +kernel
theorem d_law_339 : decode code 339 = .ok (.invokevirtual 61, 3) := by decide +kernel
theorem d_law_342 : decode code 342 = .ok (.aload_n 2, 1) := by decide +kernel
theorem d_law_343 : decode code 343 = .ok (.invokevirtual 64, 3) := by decide +kernel
theorem d_law_346 : decode code 346 = .ok (.if_icmp .eq 5, 3) := by decide +kernel
theorem d_law_349 : decode code 349 = .ok (.iconst 0, 1) := by decide +kernel
theorem d_law_350 : decode code 350 = .ok (.ireturn, 1) := by decide +kernel
theorem d_law_351 : decode code 351 = .ok (.iinc 3 4, 3) := by decide +kernel
theorem d_law_354 : decode code 354 = .ok (.goto (-336), 3) := by decide +kernel
theorem d_law_357 : decode code 357 = .ok (.iconst 1, 1) := by decide +kernel
theorem d_law_358 : decode code 358 = .ok (.ireturn, 1) := by decide +kernel
end
section
def hn_T : List Cond := lw_tbl.filter goodWord
theorem hn_in {w : Cond} (i : Nat) (h : tables_1[i]? = some w) (hg : goodWord w = true) : w ∈ hn_T := List.mem_filter.mpr ⟨List.mem_append_right _ (List.mem_of_getElem? h), hg⟩
theorem hn_inS {w : Cond} (i : Nat) (h : (k2_sels lw_privs)[i]? = some w) (hg : goodWord w = true) : w ∈ hn_T := List.mem_filter.mpr ⟨List.mem_append_left _ (List.mem_of_getElem? h), hg⟩
theorem mw_0 : Cond.initialized R_Law ∈ hn_T := hn_in 0 (by decide +kernel) rfl
theorem mw_1 : Cond.initialized R_Host ∈ hn_T := hn_in 1 (by decide +kernel) rfl
theorem mw_2 : Cond.initialized R_Row ∈ hn_T := hn_in 2 (by decide +kernel) rfl
theorem mw_3 : Cond.initialized R_Labels ∈ hn_T := hn_in 3 (by decide +kernel) rfl
theorem mw_4 : Cond.initialized R_Composer ∈ hn_T := hn_in 4 (by decide +kernel) rfl
theorem mw_5 : Cond.initialized R_Packer ∈ hn_T := hn_in 5 (by decide +kernel) rfl
theorem mw_6 : Cond.initialized R_Checker ∈ hn_T := hn_in 6 (by decide +kernel) rfl
theorem mw_7 : Cond.initialized R_Mod ∈ hn_T := hn_in 7 (by decide +kernel) rfl
theorem mw_8 : Cond.initialized R_Codes ∈ hn_T := hn_in 8 (by decide +kernel) rfl
theorem mw_9 : Cond.initialized R_Math ∈ hn_T := hn_in 9 (by decide +kernel) rfl
theorem mw_10 : Cond.classLink R_Law 7 R_Host ∈ hn_T := hn_in 10 (by decide +kernel) rfl
theorem mw_11 : Cond.instantiable R_Host 10 ∈ hn_T := hn_in 11 (by decide +kernel) rfl
theorem mw_12 : Cond.methodLink R_Law 9 y_Host_init ∈ hn_T := hn_in 12 (by decide +kernel) rfl
theorem mw_13 : Cond.instanceMethod y_Host_init ∈ hn_T := hn_in 13 (by decide +kernel) rfl
set_option maxRecDepth 100000 in
theorem mw_14 : Cond.code y_Host_init b_Host_init 1 none ∈ hn_T := hn_in 14 rfl rfl
theorem mw_15 : Cond.methodLink R_Host 3 objectInit ∈ hn_T := hn_in 15 (by decide +kernel) rfl
theorem mw_16 : Cond.instanceMethod objectInit ∈ hn_T := hn_in 16 (by decide +kernel) rfl
set_option maxRecDepth 100000 in
theorem mw_17 : Cond.code objectInit ⟨#[0xb1]⟩ 1 none ∈ hn_T := hn_in 17 rfl rfl
theorem mw_18 : Cond.classLink R_Host 9 R_Row ∈ hn_T := hn_in 18 (by decide +kernel) rfl
theorem mw_19 : Cond.instantiable R_Row 2 ∈ hn_T := hn_in 19 (by decide +kernel) rfl
theorem mw_20 : Cond.methodLink R_Host 11 y_Row_init ∈ hn_T := hn_in 20 (by decide +kernel) rfl
theorem mw_21 : Cond.instanceMethod y_Row_init ∈ hn_T := hn_in 21 (by decide +kernel) rfl
set_option maxRecDepth 100000 in
theorem mw_22 : Cond.code y_Row_init b_Row_init 2 none ∈ hn_T := hn_in 22 rfl rfl
theorem mw_23 : Cond.methodLink R_Row 3 objectInit ∈ hn_T := hn_in 23 (by decide +kernel) rfl
theorem mw_24 : Cond.fieldLink R_Row 9 "HostNames$Row" "codes" "[I" ∈ hn_T := hn_in 24 (by decide +kernel) rfl
theorem mw_25 : Cond.fieldLink R_Row 15 "HostNames$Row" "size" "I" ∈ hn_T := hn_in 25 (by decide +kernel) rfl
theorem mw_31 : Cond.arrayClass .int ∈ hn_T := hn_in 31 (by decide +kernel) rfl
theorem mw_32 : Cond.classLink R_Host 33 R_Labels ∈ hn_T := hn_in 32 (by decide +kernel) rfl
theorem mw_33 : Cond.instantiable R_Labels 5 ∈ hn_T := hn_in 33 (by decide +kernel) rfl
theorem mw_34 : Cond.methodLink R_Host 35 y_Labels_init ∈ hn_T := hn_in 34 (by decide +kernel) rfl
theorem mw_35 : Cond.instanceMethod y_Labels_init ∈ hn_T := hn_in 35 (by decide +kernel) rfl
set_option maxRecDepth 100000 in
theorem mw_36 : Cond.code y_Labels_init b_Labels_init 1 none ∈ hn_T := hn_in 36 rfl rfl
theorem mw_37 : Cond.methodLink R_Labels 3 objectInit ∈ hn_T := hn_in 37 (by decide +kernel) rfl
theorem mw_38 : Cond.classLink R_Labels 9 R_Row ∈ hn_T := hn_in 38 (by decide +kernel) rfl
theorem mw_39 : Cond.methodLink R_Labels 11 y_Row_init ∈ hn_T := hn_in 39 (by decide +kernel) rfl
theorem mw_40 : Cond.fieldLink R_Labels 14 "HostNames$Labels" "codes" "LHostNames$Row;" ∈ hn_T := hn_in 40 (by decide +kernel) rfl
theorem mw_41 : Cond.fieldLink R_Labels 20 "HostNames$Labels" "ends" "[I" ∈ hn_T := hn_in 41 (by decide +kernel) rfl
theorem mw_42 : Cond.fieldLink R_Labels 24 "HostNames$Labels" "rules" "[I" ∈ hn_T := hn_in 42 (by decide +kernel) rfl
theorem mw_43 : Cond.fieldLink R_Labels 27 "HostNames$Labels" "tagged" "[Z" ∈ hn_T := hn_in 43 (by decide +kernel) rfl
theorem mw_44 : Cond.fieldLink R_Labels 31 "HostNames$Labels" "count" "I" ∈ hn_T := hn_in 44 (by decide +kernel) rfl
theorem mw_56 : Cond.arrayClass .boolean ∈ hn_T := hn_in 56 (by decide +kernel) rfl
theorem mw_57 : Cond.classLink R_Host 40 R_Composer ∈ hn_T := hn_in 57 (by decide +kernel) rfl
theorem mw_58 : Cond.instantiable R_Composer 1 ∈ hn_T := hn_in 58 (by decide +kernel) rfl
theorem mw_59 : Cond.methodLink R_Host 42 y_Composer_init ∈ hn_T := hn_in 59 (by decide +kernel) rfl
theorem mw_60 : Cond.instanceMethod y_Composer_init ∈ hn_T := hn_in 60 (by decide +kernel) rfl
set_option maxRecDepth 100000 in
theorem mw_61 : Cond.code y_Composer_init b_Composer_init 1 none ∈ hn_T := hn_in 61 rfl rfl
theorem mw_62 : Cond.methodLink R_Composer 3 objectInit ∈ hn_T := hn_in 62 (by decide +kernel) rfl
theorem mw_63 : Cond.classLink R_Composer 9 R_Row ∈ hn_T := hn_in 63 (by decide +kernel) rfl
theorem mw_64 : Cond.methodLink R_Composer 11 y_Row_init ∈ hn_T := hn_in 64 (by decide +kernel) rfl
theorem mw_65 : Cond.fieldLink R_Composer 14 "HostNames$Composer" "parts" "LHostNames$Row;" ∈ hn_T := hn_in 65 (by decide +kernel) rfl
theorem mw_69 : Cond.classLink R_Host 47 R_Packer ∈ hn_T := hn_in 69 (by decide +kernel) rfl
theorem mw_70 : Cond.instantiable R_Packer 2 ∈ hn_T := hn_in 70 (by decide +kernel) rfl
theorem mw_71 : Cond.methodLink R_Host 49 y_Packer_init ∈ hn_T := hn_in 71 (by decide +kernel) rfl
theorem mw_72 : Cond.instanceMethod y_Packer_init ∈ hn_T := hn_in 72 (by decide +kernel) rfl
set_option maxRecDepth 100000 in
theorem mw_73 : Cond.code y_Packer_init b_Packer_init 1 none ∈ hn_T := hn_in 73 rfl rfl
theorem mw_74 : Cond.methodLink R_Packer 3 objectInit ∈ hn_T := hn_in 74 (by decide +kernel) rfl
theorem mw_75 : Cond.fieldLink R_Packer 11 "HostNames$Packer" "bias" "I" ∈ hn_T := hn_in 75 (by decide +kernel) rfl
theorem mw_76 : Cond.fieldLink R_Packer 15 "HostNames$Packer" "next" "I" ∈ hn_T := hn_in 76 (by decide +kernel) rfl
theorem mw_82 : Cond.classLink R_Host 54 R_Checker ∈ hn_T := hn_in 82 (by decide +kernel) rfl
theorem mw_83 : Cond.instantiable R_Checker 2 ∈ hn_T := hn_in 83 (by decide +kernel) rfl
theorem mw_84 : Cond.methodLink R_Host 56 y_Checker_init ∈ hn_T := hn_in 84 (by decide +kernel) rfl
theorem mw_85 : Cond.instanceMethod y_Checker_init ∈ hn_T := hn_in 85 (by decide +kernel) rfl
set_option maxRecDepth 100000 in
theorem mw_86 : Cond.code y_Checker_init b_Checker_init 2 none ∈ hn_T := hn_in 86 rfl rfl
theorem mw_87 : Cond.methodLink R_Checker 3 objectInit ∈ hn_T := hn_in 87 (by decide +kernel) rfl
theorem mw_88 : Cond.classLink R_Checker 15 R_Row ∈ hn_T := hn_in 88 (by decide +kernel) rfl
theorem mw_89 : Cond.methodLink R_Checker 17 y_Row_init ∈ hn_T := hn_in 89 (by decide +kernel) rfl
theorem mw_90 : Cond.fieldLink R_Checker 9 "HostNames$Checker" "composer" "LHostNames$Composer;" ∈ hn_T := hn_in 90 (by decide +kernel) rfl
theorem mw_91 : Cond.fieldLink R_Checker 20 "HostNames$Checker" "form" "LHostNames$Row;" ∈ hn_T := hn_in 91 (by decide +kernel) rfl
theorem mw_97 : Cond.fieldLink R_Host 14 "HostNames" "text" "LHostNames$Row;" ∈ hn_T := hn_in 97 (by decide +kernel) rfl
theorem mw_98 : Cond.fieldLink R_Host 18 "HostNames" "result" "LHostNames$Row;" ∈ hn_T := hn_in 98 (by decide +kernel) rfl
theorem mw_99 : Cond.fieldLink R_Host 21 "HostNames" "mapped" "LHostNames$Row;" ∈ hn_T := hn_in 99 (by decide +kernel) rfl
theorem mw_100 : Cond.fieldLink R_Host 24 "HostNames" "composed" "LHostNames$Row;" ∈ hn_T := hn_in 100 (by decide +kernel) rfl
theorem mw_101 : Cond.fieldLink R_Host 27 "HostNames" "label" "LHostNames$Row;" ∈ hn_T := hn_in 101 (by decide +kernel) rfl
theorem mw_102 : Cond.fieldLink R_Host 30 "HostNames" "unpacked" "LHostNames$Row;" ∈ hn_T := hn_in 102 (by decide +kernel) rfl
theorem mw_103 : Cond.fieldLink R_Host 36 "HostNames" "found" "LHostNames$Labels;" ∈ hn_T := hn_in 103 (by decide +kernel) rfl
theorem mw_104 : Cond.fieldLink R_Host 43 "HostNames" "composer" "LHostNames$Composer;" ∈ hn_T := hn_in 104 (by decide +kernel) rfl
theorem mw_105 : Cond.fieldLink R_Host 50 "HostNames" "packer" "LHostNames$Packer;" ∈ hn_T := hn_in 105 (by decide +kernel) rfl
theorem mw_106 : Cond.fieldLink R_Host 59 "HostNames" "checker" "LHostNames$Checker;" ∈ hn_T := hn_in 106 (by decide +kernel) rfl
theorem mw_128 : Cond.methodLink R_Law 13 y_Host_put ∈ hn_T := hn_in 128 (by decide +kernel) rfl
theorem mw_129 : Cond.instanceMethod y_Host_put ∈ hn_T := hn_in 129 (by decide +kernel) rfl
theorem mw_130 : Cond.selects R_Host y_Host_put y_Host_put ∈ hn_T := hn_in 130 (by decide +kernel) rfl
set_option maxRecDepth 100000 in
theorem mw_131 : Cond.code y_Host_put b_Host_put 3 (some .boolean) ∈ hn_T := hn_in 131 rfl rfl
theorem mw_132 : Cond.constant R_Host 63 55296 ∈ hn_T := hn_in 132 (by decide +kernel) rfl
theorem mw_133 : Cond.constant R_Host 64 57343 ∈ hn_T := hn_in 133 (by decide +kernel) rfl
theorem mw_134 : Cond.methodLink R_Host 65 y_Codes_isWithin ∈ hn_T := hn_in 134 (by decide +kernel) rfl
theorem mw_135 : Cond.static y_Codes_isWithin ∈ hn_T := hn_in 135 (by decide +kernel) rfl
set_option maxRecDepth 100000 in
theorem mw_136 : Cond.code y_Codes_isWithin b_Codes_isWithin 3 (some .boolean) ∈ hn_T := hn_in 136 rfl rfl
theorem mw_137 : Cond.constant R_Host 71 1114111 ∈ hn_T := hn_in 137 (by decide +kernel) rfl
theorem mw_138 : Cond.methodLink R_Host 72 y_Row_add ∈ hn_T := hn_in 138 (by decide +kernel) rfl
theorem mw_139 : Cond.instanceMethod y_Row_add ∈ hn_T := hn_in 139 (by decide +kernel) rfl
theorem mw_140 : Cond.selects R_Row y_Row_add y_Row_add ∈ hn_T := hn_in 140 (by decide +kernel) rfl
set_option maxRecDepth 100000 in
theorem mw_141 : Cond.code y_Row_add b_Row_add 2 (some .boolean) ∈ hn_T := hn_in 141 rfl rfl
theorem mw_142 : Cond.methodLink R_Law 20 y_Host_type ∈ hn_T := hn_in 142 (by decide +kernel) rfl
theorem mw_143 : Cond.instanceMethod y_Host_type ∈ hn_T := hn_in 143 (by decide +kernel) rfl
theorem mw_144 : Cond.selects R_Host y_Host_type y_Host_type ∈ hn_T := hn_in 144 (by decide +kernel) rfl
set_option maxRecDepth 100000 in
theorem mw_145 : Cond.code y_Host_type b_Host_type 5 (some .boolean) ∈ hn_T := hn_in 145 rfl rfl
theorem mw_146 : Cond.methodLink R_Host 76 y_Row_size ∈ hn_T := hn_in 146 (by decide +kernel) rfl
theorem mw_147 : Cond.instanceMethod y_Row_size ∈ hn_T := hn_in 147 (by decide +kernel) rfl
theorem mw_148 : Cond.selects R_Row y_Row_size y_Row_size ∈ hn_T := hn_in 148 (by decide +kernel) rfl
set_option maxRecDepth 100000 in
theorem mw_149 : Cond.code y_Row_size b_Row_size 1 (some .int) ∈ hn_T := hn_in 149 rfl rfl
theorem mw_150 : Cond.methodLink R_Law 25 y_Host_clear ∈ hn_T := hn_in 150 (by decide +kernel) rfl
theorem mw_151 : Cond.instanceMethod y_Host_clear ∈ hn_T := hn_in 151 (by decide +kernel) rfl
theorem mw_152 : Cond.selects R_Host y_Host_clear y_Host_clear ∈ hn_T := hn_in 152 (by decide +kernel) rfl
set_option maxRecDepth 100000 in
theorem mw_153 : Cond.code y_Host_clear b_Host_clear 2 (some .int) ∈ hn_T := hn_in 153 rfl rfl
theorem mw_154 : Cond.methodLink R_Host 80 y_Row_empty ∈ hn_T := hn_in 154 (by decide +kernel) rfl
theorem mw_155 : Cond.instanceMethod y_Row_empty ∈ hn_T := hn_in 155 (by decide +kernel) rfl
theorem mw_156 : Cond.selects R_Row y_Row_empty y_Row_empty ∈ hn_T := hn_in 156 (by decide +kernel) rfl
set_option maxRecDepth 100000 in
theorem mw_157 : Cond.code y_Row_empty b_Row_empty 1 none ∈ hn_T := hn_in 157 rfl rfl
theorem mw_158 : Cond.methodLink R_Law 30 y_Host_process ∈ hn_T := hn_in 158 (by decide +kernel) rfl
theorem mw_159 : Cond.instanceMethod y_Host_process ∈ hn_T := hn_in 159 (by decide +kernel) rfl
theorem mw_160 : Cond.selects R_Host y_Host_process y_Host_process ∈ hn_T := hn_in 160 (by decide +kernel) rfl
set_option maxRecDepth 100000 in
theorem mw_161 : Cond.code y_Host_process b_Host_process 4 (some .int) ∈ hn_T := hn_in 161 rfl rfl
theorem mw_162 : Cond.methodLink R_Host 83 y_Host_mapText ∈ hn_T := hn_in 162 (by decide +kernel) rfl
theorem mw_164 : Cond.instanceMethod y_Host_mapText ∈ hn_T := hn_in 164 (by decide +kernel) rfl
set_option maxRecDepth 100000 in
theorem mw_165 : Cond.code y_Host_mapText b_Host_mapText 6 (some .int) ∈ hn_T := hn_in 165 rfl rfl
theorem mw_166 : Cond.methodLink R_Host 104 y_Row_get ∈ hn_T := hn_in 166 (by decide +kernel) rfl
theorem mw_167 : Cond.instanceMethod y_Row_get ∈ hn_T := hn_in 167 (by decide +kernel) rfl
theorem mw_168 : Cond.selects R_Row y_Row_get y_Row_get ∈ hn_T := hn_in 168 (by decide +kernel) rfl
set_option maxRecDepth 100000 in
theorem mw_169 : Cond.code y_Row_get b_Row_get 2 (some .int) ∈ hn_T := hn_in 169 rfl rfl
theorem mw_170 : Cond.methodLink R_Host 124 y_Host_mapCode ∈ hn_T := hn_in 170 (by decide +kernel) rfl
theorem mw_172 : Cond.instanceMethod y_Host_mapCode ∈ hn_T := hn_in 172 (by decide +kernel) rfl
set_option maxRecDepth 100000 in
theorem mw_173 : Cond.code y_Host_mapCode b_Host_mapCode 5 (some .boolean) ∈ hn_T := hn_in 173 rfl rfl
theorem mw_174 : Cond.methodLink R_Host 131 y_Codes_isOdd ∈ hn_T := hn_in 174 (by decide +kernel) rfl
theorem mw_175 : Cond.static y_Codes_isOdd ∈ hn_T := hn_in 175 (by decide +kernel) rfl
set_option maxRecDepth 100000 in
theorem mw_176 : Cond.code y_Codes_isOdd b_Codes_isOdd 1 (some .boolean) ∈ hn_T := hn_in 176 rfl rfl
theorem mw_177 : Cond.methodLink R_Host 134 y_Host_mapOdd ∈ hn_T := hn_in 177 (by decide +kernel) rfl
theorem mw_179 : Cond.instanceMethod y_Host_mapOdd ∈ hn_T := hn_in 179 (by decide +kernel) rfl
set_option maxRecDepth 100000 in
theorem mw_180 : Cond.code y_Host_mapOdd b_Host_mapOdd 2 none ∈ hn_T := hn_in 180 rfl rfl
theorem mw_181 : Cond.methodLink R_Host 137 y_Codes_mappedTo ∈ hn_T := hn_in 181 (by decide +kernel) rfl
theorem mw_182 : Cond.static y_Codes_mappedTo ∈ hn_T := hn_in 182 (by decide +kernel) rfl
set_option maxRecDepth 100000 in
theorem mw_183 : Cond.code y_Codes_mappedTo b_Codes_mappedTo 3 (some .int) ∈ hn_T := hn_in 183 rfl rfl
theorem mw_184 : Cond.constant R_Codes 32 65281 ∈ hn_T := hn_in 184 (by decide +kernel) rfl
theorem mw_185 : Cond.constant R_Codes 33 65374 ∈ hn_T := hn_in 185 (by decide +kernel) rfl
theorem mw_186 : Cond.methodLink R_Codes 15 y_Codes_isWithin ∈ hn_T := hn_in 186 (by decide +kernel) rfl
theorem mw_187 : Cond.constant R_Codes 34 65248 ∈ hn_T := hn_in 187 (by decide +kernel) rfl
theorem mw_188 : Cond.methodLink R_Codes 19 y_Codes_isCapital ∈ hn_T := hn_in 188 (by decide +kernel) rfl
theorem mw_189 : Cond.static y_Codes_isCapital ∈ hn_T := hn_in 189 (by decide +kernel) rfl
set_option maxRecDepth 100000 in
theorem mw_190 : Cond.code y_Codes_isCapital b_Codes_isCapital 1 (some .boolean) ∈ hn_T := hn_in 190 rfl rfl
theorem mw_191 : Cond.methodLink R_Host 140 y_Codes_isGood ∈ hn_T := hn_in 191 (by decide +kernel) rfl
theorem mw_192 : Cond.static y_Codes_isGood ∈ hn_T := hn_in 192 (by decide +kernel) rfl
set_option maxRecDepth 100000 in
theorem mw_193 : Cond.code y_Codes_isGood b_Codes_isGood 3 (some .boolean) ∈ hn_T := hn_in 193 rfl rfl
theorem mw_194 : Cond.methodLink R_Codes 23 y_Codes_isInGoodRanges ∈ hn_T := hn_in 194 (by decide +kernel) rfl
theorem mw_195 : Cond.static y_Codes_isInGoodRanges ∈ hn_T := hn_in 195 (by decide +kernel) rfl
set_option maxRecDepth 100000 in
theorem mw_196 : Cond.code y_Codes_isInGoodRanges b_Codes_isInGoodRanges 2 (some .boolean) ∈ hn_T := hn_in 196 rfl rfl
theorem mw_197 : Cond.fieldLink R_Codes 9 "HostNames$Codes" "GOOD_RANGES" "[I" ∈ hn_T := hn_in 197 (by decide +kernel) rfl
theorem mw_199 : Cond.methodLink R_Codes 26 y_Codes_isPlain ∈ hn_T := hn_in 199 (by decide +kernel) rfl
theorem mw_200 : Cond.static y_Codes_isPlain ∈ hn_T := hn_in 200 (by decide +kernel) rfl
set_option maxRecDepth 100000 in
theorem mw_201 : Cond.code y_Codes_isPlain b_Codes_isPlain 1 (some .boolean) ∈ hn_T := hn_in 201 rfl rfl
theorem mw_202 : Cond.methodLink R_Codes 29 y_Codes_isOdd ∈ hn_T := hn_in 202 (by decide +kernel) rfl
theorem mw_203 : Cond.methodLink R_Host 128 y_Host_bit ∈ hn_T := hn_in 203 (by decide +kernel) rfl
theorem mw_204 : Cond.static y_Host_bit ∈ hn_T := hn_in 204 (by decide +kernel) rfl
set_option maxRecDepth 100000 in
theorem mw_205 : Cond.code y_Host_bit b_Host_bit 1 (some .int) ∈ hn_T := hn_in 205 rfl rfl
theorem mw_206 : Cond.methodLink R_Host 87 y_Composer_form ∈ hn_T := hn_in 206 (by decide +kernel) rfl
theorem mw_207 : Cond.instanceMethod y_Composer_form ∈ hn_T := hn_in 207 (by decide +kernel) rfl
theorem mw_208 : Cond.selects R_Composer y_Composer_form y_Composer_form ∈ hn_T := hn_in 208 (by decide +kernel) rfl
set_option maxRecDepth 100000 in
theorem mw_209 : Cond.code y_Composer_form b_Composer_form 3 none ∈ hn_T := hn_in 209 rfl rfl
theorem mw_210 : Cond.methodLink R_Composer 20 y_Composer_takeApart ∈ hn_T := hn_in 210 (by decide +kernel) rfl
theorem mw_212 : Cond.instanceMethod y_Composer_takeApart ∈ hn_T := hn_in 212 (by decide +kernel) rfl
set_option maxRecDepth 100000 in
theorem mw_213 : Cond.code y_Composer_takeApart b_Composer_takeApart 5 none ∈ hn_T := hn_in 213 rfl rfl
theorem mw_214 : Cond.methodLink R_Composer 30 y_Row_empty ∈ hn_T := hn_in 214 (by decide +kernel) rfl
theorem mw_215 : Cond.methodLink R_Composer 33 y_Row_size ∈ hn_T := hn_in 215 (by decide +kernel) rfl
theorem mw_216 : Cond.methodLink R_Composer 37 y_Row_get ∈ hn_T := hn_in 216 (by decide +kernel) rfl
theorem mw_217 : Cond.methodLink R_Composer 41 y_Composer_pairOfCode ∈ hn_T := hn_in 217 (by decide +kernel) rfl
theorem mw_218 : Cond.static y_Composer_pairOfCode ∈ hn_T := hn_in 218 (by decide +kernel) rfl
set_option maxRecDepth 100000 in
theorem mw_219 : Cond.code y_Composer_pairOfCode b_Composer_pairOfCode 2 (some .int) ∈ hn_T := hn_in 219 rfl rfl
theorem mw_220 : Cond.fieldLink R_Composer 55 "HostNames$Composer" "PAIR_CODES" "[I" ∈ hn_T := hn_in 220 (by decide +kernel) rfl
theorem mw_222 : Cond.methodLink R_Composer 44 y_Row_add ∈ hn_T := hn_in 222 (by decide +kernel) rfl
theorem mw_223 : Cond.fieldLink R_Composer 48 "HostNames$Composer" "PAIR_LETTERS" "[I" ∈ hn_T := hn_in 223 (by decide +kernel) rfl
theorem mw_225 : Cond.fieldLink R_Composer 52 "HostNames$Composer" "PAIR_MARKS" "[I" ∈ hn_T := hn_in 225 (by decide +kernel) rfl
theorem mw_227 : Cond.methodLink R_Composer 24 y_Composer_sortMarks ∈ hn_T := hn_in 227 (by decide +kernel) rfl
theorem mw_229 : Cond.instanceMethod y_Composer_sortMarks ∈ hn_T := hn_in 229 (by decide +kernel) rfl
set_option maxRecDepth 100000 in
theorem mw_230 : Cond.code y_Composer_sortMarks b_Composer_sortMarks 6 none ∈ hn_T := hn_in 230 rfl rfl
theorem mw_231 : Cond.methodLink R_Composer 58 y_Codes_order ∈ hn_T := hn_in 231 (by decide +kernel) rfl
theorem mw_232 : Cond.static y_Codes_order ∈ hn_T := hn_in 232 (by decide +kernel) rfl
set_option maxRecDepth 100000 in
theorem mw_233 : Cond.code y_Codes_order b_Codes_order 1 (some .int) ∈ hn_T := hn_in 233 rfl rfl
theorem mw_234 : Cond.methodLink R_Composer 63 y_Row_set ∈ hn_T := hn_in 234 (by decide +kernel) rfl
theorem mw_235 : Cond.instanceMethod y_Row_set ∈ hn_T := hn_in 235 (by decide +kernel) rfl
theorem mw_236 : Cond.selects R_Row y_Row_set y_Row_set ∈ hn_T := hn_in 236 (by decide +kernel) rfl
set_option maxRecDepth 100000 in
theorem mw_237 : Cond.code y_Row_set b_Row_set 3 none ∈ hn_T := hn_in 237 rfl rfl
theorem mw_238 : Cond.methodLink R_Composer 27 y_Composer_join ∈ hn_T := hn_in 238 (by decide +kernel) rfl
theorem mw_240 : Cond.instanceMethod y_Composer_join ∈ hn_T := hn_in 240 (by decide +kernel) rfl
set_option maxRecDepth 100000 in
theorem mw_241 : Cond.code y_Composer_join b_Composer_join 8 none ∈ hn_T := hn_in 241 rfl rfl
theorem mw_242 : Cond.methodLink R_Composer 67 y_Composer_pairOfParts ∈ hn_T := hn_in 242 (by decide +kernel) rfl
theorem mw_243 : Cond.static y_Composer_pairOfParts ∈ hn_T := hn_in 243 (by decide +kernel) rfl
set_option maxRecDepth 100000 in
theorem mw_244 : Cond.code y_Composer_pairOfParts b_Composer_pairOfParts 3 (some .int) ∈ hn_T := hn_in 244 rfl rfl
theorem mw_245 : Cond.methodLink R_Host 91 y_Host_cutIntoLabels ∈ hn_T := hn_in 245 (by decide +kernel) rfl
theorem mw_247 : Cond.instanceMethod y_Host_cutIntoLabels ∈ hn_T := hn_in 247 (by decide +kernel) rfl
set_option maxRecDepth 100000 in
theorem mw_248 : Cond.code y_Host_cutIntoLabels b_Host_cutIntoLabels 3 none ∈ hn_T := hn_in 248 rfl rfl
theorem mw_249 : Cond.methodLink R_Host 143 y_Labels_empty ∈ hn_T := hn_in 249 (by decide +kernel) rfl
theorem mw_250 : Cond.instanceMethod y_Labels_empty ∈ hn_T := hn_in 250 (by decide +kernel) rfl
theorem mw_251 : Cond.selects R_Labels y_Labels_empty y_Labels_empty ∈ hn_T := hn_in 251 (by decide +kernel) rfl
set_option maxRecDepth 100000 in
theorem mw_252 : Cond.code y_Labels_empty b_Labels_empty 1 none ∈ hn_T := hn_in 252 rfl rfl
theorem mw_253 : Cond.methodLink R_Labels 35 y_Row_empty ∈ hn_T := hn_in 253 (by decide +kernel) rfl
theorem mw_254 : Cond.methodLink R_Host 120 y_Row_addPart ∈ hn_T := hn_in 254 (by decide +kernel) rfl
theorem mw_255 : Cond.instanceMethod y_Row_addPart ∈ hn_T := hn_in 255 (by decide +kernel) rfl
theorem mw_256 : Cond.selects R_Row y_Row_addPart y_Row_addPart ∈ hn_T := hn_in 256 (by decide +kernel) rfl
set_option maxRecDepth 100000 in
theorem mw_257 : Cond.code y_Row_addPart b_Row_addPart 5 none ∈ hn_T := hn_in 257 rfl rfl
theorem mw_258 : Cond.methodLink R_Row 19 y_Row_get ∈ hn_T := hn_in 258 (by decide +kernel) rfl
theorem mw_259 : Cond.methodLink R_Row 23 y_Row_add ∈ hn_T := hn_in 259 (by decide +kernel) rfl
theorem mw_260 : Cond.methodLink R_Host 144 y_Host_keepLabel ∈ hn_T := hn_in 260 (by decide +kernel) rfl
theorem mw_262 : Cond.instanceMethod y_Host_keepLabel ∈ hn_T := hn_in 262 (by decide +kernel) rfl
set_option maxRecDepth 100000 in
theorem mw_263 : Cond.code y_Host_keepLabel b_Host_keepLabel 2 none ∈ hn_T := hn_in 263 rfl rfl
theorem mw_264 : Cond.methodLink R_Host 147 y_Checker_isTagged ∈ hn_T := hn_in 264 (by decide +kernel) rfl
theorem mw_265 : Cond.static y_Checker_isTagged ∈ hn_T := hn_in 265 (by decide +kernel) rfl
set_option maxRecDepth 100000 in
theorem mw_266 : Cond.code y_Checker_isTagged b_Checker_isTagged 2 (some .boolean) ∈ hn_T := hn_in 266 rfl rfl
theorem mw_267 : Cond.fieldLink R_Checker 24 "HostNames$Checker" "TAG" "[I" ∈ hn_T := hn_in 267 (by decide +kernel) rfl
theorem mw_269 : Cond.methodLink R_Checker 28 y_Row_get ∈ hn_T := hn_in 269 (by decide +kernel) rfl
theorem mw_270 : Cond.methodLink R_Host 151 y_Labels_add ∈ hn_T := hn_in 270 (by decide +kernel) rfl
theorem mw_271 : Cond.instanceMethod y_Labels_add ∈ hn_T := hn_in 271 (by decide +kernel) rfl
theorem mw_272 : Cond.selects R_Labels y_Labels_add y_Labels_add ∈ hn_T := hn_in 272 (by decide +kernel) rfl
set_option maxRecDepth 100000 in
theorem mw_273 : Cond.code y_Labels_add b_Labels_add 4 none ∈ hn_T := hn_in 273 rfl rfl
theorem mw_274 : Cond.methodLink R_Labels 38 y_Row_size ∈ hn_T := hn_in 274 (by decide +kernel) rfl
theorem mw_275 : Cond.methodLink R_Labels 42 y_Row_addPart ∈ hn_T := hn_in 275 (by decide +kernel) rfl
theorem mw_276 : Cond.methodLink R_Host 116 y_Packer_read ∈ hn_T := hn_in 276 (by decide +kernel) rfl
theorem mw_277 : Cond.instanceMethod y_Packer_read ∈ hn_T := hn_in 277 (by decide +kernel) rfl
theorem mw_278 : Cond.selects R_Packer y_Packer_read y_Packer_read ∈ hn_T := hn_in 278 (by decide +kernel) rfl
set_option maxRecDepth 100000 in
theorem mw_279 : Cond.code y_Packer_read b_Packer_read 12 (some .boolean) ∈ hn_T := hn_in 279 rfl rfl
theorem mw_280 : Cond.methodLink R_Packer 73 y_Row_empty ∈ hn_T := hn_in 280 (by decide +kernel) rfl
theorem mw_281 : Cond.methodLink R_Packer 76 y_Packer_readBasic ∈ hn_T := hn_in 281 (by decide +kernel) rfl
theorem mw_283 : Cond.instanceMethod y_Packer_readBasic ∈ hn_T := hn_in 283 (by decide +kernel) rfl
set_option maxRecDepth 100000 in
theorem mw_284 : Cond.code y_Packer_readBasic b_Packer_readBasic 6 (some .boolean) ∈ hn_T := hn_in 284 rfl rfl
theorem mw_285 : Cond.methodLink R_Packer 22 y_Row_size ∈ hn_T := hn_in 285 (by decide +kernel) rfl
theorem mw_286 : Cond.methodLink R_Packer 32 y_Row_get ∈ hn_T := hn_in 286 (by decide +kernel) rfl
theorem mw_287 : Cond.methodLink R_Packer 44 y_Row_add ∈ hn_T := hn_in 287 (by decide +kernel) rfl
theorem mw_288 : Cond.constantLong R_Packer 80 128 ∈ hn_T := hn_in 288 (by decide +kernel) rfl
theorem mw_289 : Cond.methodLink R_Packer 82 y_Packer_readNumber ∈ hn_T := hn_in 289 (by decide +kernel) rfl
theorem mw_291 : Cond.instanceMethod y_Packer_readNumber ∈ hn_T := hn_in 291 (by decide +kernel) rfl
set_option maxRecDepth 100000 in
theorem mw_292 : Cond.code y_Packer_readNumber b_Packer_readNumber 11 (some .long) ∈ hn_T := hn_in 292 rfl rfl
theorem mw_293 : Cond.methodLink R_Packer 94 y_Packer_digitOfCode ∈ hn_T := hn_in 293 (by decide +kernel) rfl
theorem mw_294 : Cond.static y_Packer_digitOfCode ∈ hn_T := hn_in 294 (by decide +kernel) rfl
set_option maxRecDepth 100000 in
theorem mw_295 : Cond.code y_Packer_digitOfCode b_Packer_digitOfCode 1 (some .int) ∈ hn_T := hn_in 295 rfl rfl
theorem mw_296 : Cond.methodLink R_Packer 64 y_Codes_isWithin ∈ hn_T := hn_in 296 (by decide +kernel) rfl
theorem mw_297 : Cond.methodLink R_Packer 70 y_Codes_isCapital ∈ hn_T := hn_in 297 (by decide +kernel) rfl
theorem mw_298 : Cond.constantLong R_Packer 86 (-1) ∈ hn_T := hn_in 298 (by decide +kernel) rfl
theorem mw_299 : Cond.methodLink R_Packer 58 y_Packer_threshold ∈ hn_T := hn_in 299 (by decide +kernel) rfl
theorem mw_301 : Cond.instanceMethod y_Packer_threshold ∈ hn_T := hn_in 301 (by decide +kernel) rfl
set_option maxRecDepth 100000 in
theorem mw_302 : Cond.code y_Packer_threshold b_Packer_threshold 2 (some .int) ∈ hn_T := hn_in 302 rfl rfl
theorem mw_303 : Cond.methodLink R_Packer 49 y_Math_min ∈ hn_T := hn_in 303 (by decide +kernel) rfl
theorem mw_304 : Cond.static y_Math_min ∈ hn_T := hn_in 304 (by decide +kernel) rfl
set_option maxRecDepth 100000 in
theorem mw_305 : Cond.code y_Math_min b_Math_min 2 (some .int) ∈ hn_T := hn_in 305 rfl rfl
theorem mw_306 : Cond.methodLink R_Packer 55 y_Math_max ∈ hn_T := hn_in 306 (by decide +kernel) rfl
theorem mw_307 : Cond.static y_Math_max ∈ hn_T := hn_in 307 (by decide +kernel) rfl
set_option maxRecDepth 100000 in
theorem mw_308 : Cond.code y_Math_max b_Math_max 2 (some .int) ∈ hn_T := hn_in 308 rfl rfl
theorem mw_309 : Cond.constantLong R_Packer 97 2147483647 ∈ hn_T := hn_in 309 (by decide +kernel) rfl
theorem mw_310 : Cond.methodLink R_Packer 40 y_Packer_adapt ∈ hn_T := hn_in 310 (by decide +kernel) rfl
theorem mw_312 : Cond.instanceMethod y_Packer_adapt ∈ hn_T := hn_in 312 (by decide +kernel) rfl
set_option maxRecDepth 100000 in
theorem mw_313 : Cond.code y_Packer_adapt b_Packer_adapt 7 none ∈ hn_T := hn_in 313 rfl rfl
theorem mw_314 : Cond.constantLong R_Packer 88 1114111 ∈ hn_T := hn_in 314 (by decide +kernel) rfl
theorem mw_315 : Cond.methodLink R_Packer 90 y_Row_insert ∈ hn_T := hn_in 315 (by decide +kernel) rfl
theorem mw_316 : Cond.instanceMethod y_Row_insert ∈ hn_T := hn_in 316 (by decide +kernel) rfl
theorem mw_317 : Cond.selects R_Row y_Row_insert y_Row_insert ∈ hn_T := hn_in 317 (by decide +kernel) rfl
set_option maxRecDepth 100000 in
theorem mw_318 : Cond.code y_Row_insert b_Row_insert 4 (some .boolean) ∈ hn_T := hn_in 318 rfl rfl
theorem mw_319 : Cond.methodLink R_Host 154 y_Row_hasAbove ∈ hn_T := hn_in 319 (by decide +kernel) rfl
theorem mw_320 : Cond.instanceMethod y_Row_hasAbove ∈ hn_T := hn_in 320 (by decide +kernel) rfl
theorem mw_321 : Cond.selects R_Row y_Row_hasAbove y_Row_hasAbove ∈ hn_T := hn_in 321 (by decide +kernel) rfl
set_option maxRecDepth 100000 in
theorem mw_322 : Cond.code y_Row_hasAbove b_Row_hasAbove 3 (some .boolean) ∈ hn_T := hn_in 322 rfl rfl
theorem mw_323 : Cond.methodLink R_Host 94 y_Host_checkLabels ∈ hn_T := hn_in 323 (by decide +kernel) rfl
theorem mw_325 : Cond.instanceMethod y_Host_checkLabels ∈ hn_T := hn_in 325 (by decide +kernel) rfl
set_option maxRecDepth 100000 in
theorem mw_326 : Cond.code y_Host_checkLabels b_Host_checkLabels 5 none ∈ hn_T := hn_in 326 rfl rfl
theorem mw_327 : Cond.methodLink R_Host 157 y_Labels_codes ∈ hn_T := hn_in 327 (by decide +kernel) rfl
theorem mw_328 : Cond.instanceMethod y_Labels_codes ∈ hn_T := hn_in 328 (by decide +kernel) rfl
theorem mw_329 : Cond.selects R_Labels y_Labels_codes y_Labels_codes ∈ hn_T := hn_in 329 (by decide +kernel) rfl
set_option maxRecDepth 100000 in
theorem mw_330 : Cond.code y_Labels_codes b_Labels_codes 1 (some (.object "HostNames$Row")) ∈ hn_T := hn_in 330 rfl rfl
theorem mw_331 : Cond.methodLink R_Host 161 y_Codes_hasRightToLeft ∈ hn_T := hn_in 331 (by decide +kernel) rfl
theorem mw_332 : Cond.static y_Codes_hasRightToLeft ∈ hn_T := hn_in 332 (by decide +kernel) rfl
set_option maxRecDepth 100000 in
theorem mw_333 : Cond.code y_Codes_hasRightToLeft b_Codes_hasRightToLeft 2 (some .boolean) ∈ hn_T := hn_in 333 rfl rfl
theorem mw_334 : Cond.methodLink R_Codes 45 y_Row_size ∈ hn_T := hn_in 334 (by decide +kernel) rfl
theorem mw_335 : Cond.methodLink R_Codes 51 y_Row_get ∈ hn_T := hn_in 335 (by decide +kernel) rfl
theorem mw_336 : Cond.methodLink R_Codes 54 y_Codes_direction ∈ hn_T := hn_in 336 (by decide +kernel) rfl
theorem mw_337 : Cond.static y_Codes_direction ∈ hn_T := hn_in 337 (by decide +kernel) rfl
set_option maxRecDepth 100000 in
theorem mw_338 : Cond.code y_Codes_direction b_Codes_direction 1 (some .int) ∈ hn_T := hn_in 338 rfl rfl
theorem mw_339 : Cond.methodLink R_Codes 39 y_Codes_isMark ∈ hn_T := hn_in 339 (by decide +kernel) rfl
theorem mw_340 : Cond.static y_Codes_isMark ∈ hn_T := hn_in 340 (by decide +kernel) rfl
set_option maxRecDepth 100000 in
theorem mw_341 : Cond.code y_Codes_isMark b_Codes_isMark 1 (some .boolean) ∈ hn_T := hn_in 341 rfl rfl
theorem mw_342 : Cond.methodLink R_Codes 35 y_Codes_order ∈ hn_T := hn_in 342 (by decide +kernel) rfl
theorem mw_343 : Cond.methodLink R_Codes 42 y_Codes_asciiDirection ∈ hn_T := hn_in 343 (by decide +kernel) rfl
theorem mw_344 : Cond.static y_Codes_asciiDirection ∈ hn_T := hn_in 344 (by decide +kernel) rfl
set_option maxRecDepth 100000 in
theorem mw_345 : Cond.code y_Codes_asciiDirection b_Codes_asciiDirection 1 (some .int) ∈ hn_T := hn_in 345 rfl rfl
theorem mw_346 : Cond.methodLink R_Host 107 y_Labels_count ∈ hn_T := hn_in 346 (by decide +kernel) rfl
theorem mw_347 : Cond.instanceMethod y_Labels_count ∈ hn_T := hn_in 347 (by decide +kernel) rfl
theorem mw_348 : Cond.selects R_Labels y_Labels_count y_Labels_count ∈ hn_T := hn_in 348 (by decide +kernel) rfl
set_option maxRecDepth 100000 in
theorem mw_349 : Cond.code y_Labels_count b_Labels_count 1 (some .int) ∈ hn_T := hn_in 349 rfl rfl
theorem mw_350 : Cond.methodLink R_Host 164 y_Labels_copyLabel ∈ hn_T := hn_in 350 (by decide +kernel) rfl
theorem mw_351 : Cond.instanceMethod y_Labels_copyLabel ∈ hn_T := hn_in 351 (by decide +kernel) rfl
theorem mw_352 : Cond.selects R_Labels y_Labels_copyLabel y_Labels_copyLabel ∈ hn_T := hn_in 352 (by decide +kernel) rfl
set_option maxRecDepth 100000 in
theorem mw_353 : Cond.code y_Labels_copyLabel b_Labels_copyLabel 3 none ∈ hn_T := hn_in 353 rfl rfl
theorem mw_354 : Cond.methodLink R_Labels 46 y_Labels_has ∈ hn_T := hn_in 354 (by decide +kernel) rfl
theorem mw_355 : Cond.instanceMethod y_Labels_has ∈ hn_T := hn_in 355 (by decide +kernel) rfl
theorem mw_356 : Cond.selects R_Labels y_Labels_has y_Labels_has ∈ hn_T := hn_in 356 (by decide +kernel) rfl
set_option maxRecDepth 100000 in
theorem mw_357 : Cond.code y_Labels_has b_Labels_has 2 (some .boolean) ∈ hn_T := hn_in 357 rfl rfl
theorem mw_358 : Cond.methodLink R_Host 110 y_Labels_rules ∈ hn_T := hn_in 358 (by decide +kernel) rfl
theorem mw_359 : Cond.instanceMethod y_Labels_rules ∈ hn_T := hn_in 359 (by decide +kernel) rfl
theorem mw_360 : Cond.selects R_Labels y_Labels_rules y_Labels_rules ∈ hn_T := hn_in 360 (by decide +kernel) rfl
set_option maxRecDepth 100000 in
theorem mw_361 : Cond.code y_Labels_rules b_Labels_rules 2 (some .int) ∈ hn_T := hn_in 361 rfl rfl
theorem mw_362 : Cond.methodLink R_Host 168 y_Labels_wasTagged ∈ hn_T := hn_in 362 (by decide +kernel) rfl
theorem mw_363 : Cond.instanceMethod y_Labels_wasTagged ∈ hn_T := hn_in 363 (by decide +kernel) rfl
theorem mw_364 : Cond.selects R_Labels y_Labels_wasTagged y_Labels_wasTagged ∈ hn_T := hn_in 364 (by decide +kernel) rfl
set_option maxRecDepth 100000 in
theorem mw_365 : Cond.code y_Labels_wasTagged b_Labels_wasTagged 2 (some .boolean) ∈ hn_T := hn_in 365 rfl rfl
theorem mw_366 : Cond.methodLink R_Host 171 y_Checker_brokenRules ∈ hn_T := hn_in 366 (by decide +kernel) rfl
theorem mw_367 : Cond.instanceMethod y_Checker_brokenRules ∈ hn_T := hn_in 367 (by decide +kernel) rfl
theorem mw_368 : Cond.selects R_Checker y_Checker_brokenRules y_Checker_brokenRules ∈ hn_T := hn_in 368 (by decide +kernel) rfl
set_option maxRecDepth 100000 in
theorem mw_369 : Cond.code y_Checker_brokenRules b_Checker_brokenRules 5 (some .int) ∈ hn_T := hn_in 369 rfl rfl
theorem mw_370 : Cond.methodLink R_Checker 36 y_Composer_form ∈ hn_T := hn_in 370 (by decide +kernel) rfl
theorem mw_371 : Cond.methodLink R_Checker 41 y_Row_isSameAs ∈ hn_T := hn_in 371 (by decide +kernel) rfl
theorem mw_372 : Cond.instanceMethod y_Row_isSameAs ∈ hn_T := hn_in 372 (by decide +kernel) rfl
theorem mw_373 : Cond.selects R_Row y_Row_isSameAs y_Row_isSameAs ∈ hn_T := hn_in 373 (by decide +kernel) rfl
set_option maxRecDepth 100000 in
theorem mw_374 : Cond.code y_Row_isSameAs b_Row_isSameAs 3 (some .boolean) ∈ hn_T := hn_in 374 rfl rfl
theorem mw_375 : Cond.methodLink R_Row 27 y_Row_size ∈ hn_T := hn_in 375 (by decide +kernel) rfl
theorem mw_377 : Cond.methodLink R_Checker 48 y_Checker_brokenHyphenRules ∈ hn_T := hn_in 377 (by decide +kernel) rfl
theorem mw_378 : Cond.static y_Checker_brokenHyphenRules ∈ hn_T := hn_in 378 (by decide +kernel) rfl
set_option maxRecDepth 100000 in
theorem mw_379 : Cond.code y_Checker_brokenHyphenRules b_Checker_brokenHyphenRules 2 (some .int) ∈ hn_T := hn_in 379 rfl rfl
theorem mw_380 : Cond.methodLink R_Checker 70 y_Row_size ∈ hn_T := hn_in 380 (by decide +kernel) rfl
theorem mw_381 : Cond.methodLink R_Checker 52 y_Checker_isTagged ∈ hn_T := hn_in 381 (by decide +kernel) rfl
theorem mw_382 : Cond.methodLink R_Checker 55 y_Codes_isMark ∈ hn_T := hn_in 382 (by decide +kernel) rfl
theorem mw_383 : Cond.methodLink R_Checker 60 y_Checker_isAllGood ∈ hn_T := hn_in 383 (by decide +kernel) rfl
theorem mw_384 : Cond.static y_Checker_isAllGood ∈ hn_T := hn_in 384 (by decide +kernel) rfl
set_option maxRecDepth 100000 in
theorem mw_385 : Cond.code y_Checker_isAllGood b_Checker_isAllGood 4 (some .boolean) ∈ hn_T := hn_in 385 rfl rfl
theorem mw_386 : Cond.methodLink R_Checker 74 y_Codes_isGood ∈ hn_T := hn_in 386 (by decide +kernel) rfl
theorem mw_387 : Cond.methodLink R_Checker 64 y_Checker_areJoinersRight ∈ hn_T := hn_in 387 (by decide +kernel) rfl
theorem mw_388 : Cond.static y_Checker_areJoinersRight ∈ hn_T := hn_in 388 (by decide +kernel) rfl
set_option maxRecDepth 100000 in
theorem mw_389 : Cond.code y_Checker_areJoinersRight b_Checker_areJoinersRight 4 (some .boolean) ∈ hn_T := hn_in 389 rfl rfl
theorem mw_390 : Cond.methodLink R_Checker 78 y_Codes_order ∈ hn_T := hn_in 390 (by decide +kernel) rfl
theorem mw_391 : Cond.methodLink R_Checker 81 y_Checker_isBetweenJoining ∈ hn_T := hn_in 391 (by decide +kernel) rfl
theorem mw_392 : Cond.static y_Checker_isBetweenJoining ∈ hn_T := hn_in 392 (by decide +kernel) rfl
set_option maxRecDepth 100000 in
theorem mw_393 : Cond.code y_Checker_isBetweenJoining b_Checker_isBetweenJoining 5 (some .boolean) ∈ hn_T := hn_in 393 rfl rfl
theorem mw_394 : Cond.methodLink R_Checker 85 y_Checker_joiningBeyond ∈ hn_T := hn_in 394 (by decide +kernel) rfl
theorem mw_395 : Cond.static y_Checker_joiningBeyond ∈ hn_T := hn_in 395 (by decide +kernel) rfl
set_option maxRecDepth 100000 in
theorem mw_396 : Cond.code y_Checker_joiningBeyond b_Checker_joiningBeyond 5 (some .int) ∈ hn_T := hn_in 396 rfl rfl
theorem mw_397 : Cond.methodLink R_Checker 89 y_Codes_joining ∈ hn_T := hn_in 397 (by decide +kernel) rfl
theorem mw_398 : Cond.static y_Codes_joining ∈ hn_T := hn_in 398 (by decide +kernel) rfl
set_option maxRecDepth 100000 in
theorem mw_399 : Cond.code y_Codes_joining b_Codes_joining 1 (some .int) ∈ hn_T := hn_in 399 rfl rfl
theorem mw_400 : Cond.methodLink R_Checker 67 y_Checker_isDirectionRight ∈ hn_T := hn_in 400 (by decide +kernel) rfl
theorem mw_401 : Cond.static y_Checker_isDirectionRight ∈ hn_T := hn_in 401 (by decide +kernel) rfl
set_option maxRecDepth 100000 in
theorem mw_402 : Cond.code y_Checker_isDirectionRight b_Checker_isDirectionRight 6 (some .boolean) ∈ hn_T := hn_in 402 rfl rfl
theorem mw_403 : Cond.methodLink R_Checker 92 y_Codes_direction ∈ hn_T := hn_in 403 (by decide +kernel) rfl
theorem mw_404 : Cond.methodLink R_Host 175 y_Labels_addRules ∈ hn_T := hn_in 404 (by decide +kernel) rfl
theorem mw_405 : Cond.instanceMethod y_Labels_addRules ∈ hn_T := hn_in 405 (by decide +kernel) rfl
theorem mw_406 : Cond.selects R_Labels y_Labels_addRules y_Labels_addRules ∈ hn_T := hn_in 406 (by decide +kernel) rfl
set_option maxRecDepth 100000 in
theorem mw_407 : Cond.code y_Labels_addRules b_Labels_addRules 3 none ∈ hn_T := hn_in 407 rfl rfl
theorem mw_408 : Cond.methodLink R_Host 97 y_Host_writeResult ∈ hn_T := hn_in 408 (by decide +kernel) rfl
theorem mw_410 : Cond.instanceMethod y_Host_writeResult ∈ hn_T := hn_in 410 (by decide +kernel) rfl
set_option maxRecDepth 100000 in
theorem mw_411 : Cond.code y_Host_writeResult b_Host_writeResult 5 (some .int) ∈ hn_T := hn_in 411 rfl rfl
theorem mw_412 : Cond.methodLink R_Host 179 y_Host_writeLabel ∈ hn_T := hn_in 412 (by decide +kernel) rfl
theorem mw_414 : Cond.instanceMethod y_Host_writeLabel ∈ hn_T := hn_in 414 (by decide +kernel) rfl
set_option maxRecDepth 100000 in
theorem mw_415 : Cond.code y_Host_writeLabel b_Host_writeLabel 2 none ∈ hn_T := hn_in 415 rfl rfl
theorem mw_416 : Cond.methodLink R_Host 191 y_Checker_addTag ∈ hn_T := hn_in 416 (by decide +kernel) rfl
theorem mw_417 : Cond.static y_Checker_addTag ∈ hn_T := hn_in 417 (by decide +kernel) rfl
set_option maxRecDepth 100000 in
theorem mw_418 : Cond.code y_Checker_addTag b_Checker_addTag 2 none ∈ hn_T := hn_in 418 rfl rfl
theorem mw_419 : Cond.methodLink R_Checker 32 y_Row_add ∈ hn_T := hn_in 419 (by decide +kernel) rfl
theorem mw_420 : Cond.methodLink R_Host 113 y_Packer_write ∈ hn_T := hn_in 420 (by decide +kernel) rfl
theorem mw_421 : Cond.instanceMethod y_Packer_write ∈ hn_T := hn_in 421 (by decide +kernel) rfl
theorem mw_422 : Cond.selects R_Packer y_Packer_write y_Packer_write ∈ hn_T := hn_in 422 (by decide +kernel) rfl
set_option maxRecDepth 100000 in
theorem mw_423 : Cond.code y_Packer_write b_Packer_write 11 none ∈ hn_T := hn_in 423 rfl rfl
theorem mw_424 : Cond.methodLink R_Packer 18 y_Packer_writeBasic ∈ hn_T := hn_in 424 (by decide +kernel) rfl
theorem mw_425 : Cond.static y_Packer_writeBasic ∈ hn_T := hn_in 425 (by decide +kernel) rfl
set_option maxRecDepth 100000 in
theorem mw_426 : Cond.code y_Packer_writeBasic b_Packer_writeBasic 4 (some .int) ∈ hn_T := hn_in 426 rfl rfl
theorem mw_427 : Cond.methodLink R_Packer 28 y_Packer_leastFrom ∈ hn_T := hn_in 427 (by decide +kernel) rfl
theorem mw_428 : Cond.static y_Packer_leastFrom ∈ hn_T := hn_in 428 (by decide +kernel) rfl
set_option maxRecDepth 100000 in
theorem mw_429 : Cond.code y_Packer_leastFrom b_Packer_leastFrom 4 (some .int) ∈ hn_T := hn_in 429 rfl rfl
theorem mw_430 : Cond.constant R_Packer 48 1114111 ∈ hn_T := hn_in 430 (by decide +kernel) rfl
theorem mw_431 : Cond.methodLink R_Packer 36 y_Packer_writeNumber ∈ hn_T := hn_in 431 (by decide +kernel) rfl
theorem mw_433 : Cond.instanceMethod y_Packer_writeNumber ∈ hn_T := hn_in 433 (by decide +kernel) rfl
set_option maxRecDepth 100000 in
theorem mw_434 : Cond.code y_Packer_writeNumber b_Packer_writeNumber 6 none ∈ hn_T := hn_in 434 rfl rfl
theorem mw_435 : Cond.methodLink R_Packer 61 y_Packer_codeOfDigit ∈ hn_T := hn_in 435 (by decide +kernel) rfl
theorem mw_436 : Cond.static y_Packer_codeOfDigit ∈ hn_T := hn_in 436 (by decide +kernel) rfl
set_option maxRecDepth 100000 in
theorem mw_437 : Cond.code y_Packer_codeOfDigit b_Packer_codeOfDigit 1 (some .int) ∈ hn_T := hn_in 437 rfl rfl
theorem mw_438 : Cond.methodLink R_Host 183 y_Host_isWrongLength ∈ hn_T := hn_in 438 (by decide +kernel) rfl
theorem mw_440 : Cond.instanceMethod y_Host_isWrongLength ∈ hn_T := hn_in 440 (by decide +kernel) rfl
set_option maxRecDepth 100000 in
theorem mw_441 : Cond.code y_Host_isWrongLength b_Host_isWrongLength 4 (some .boolean) ∈ hn_T := hn_in 441 rfl rfl
theorem mw_442 : Cond.methodLink R_Host 187 y_Host_isWholeWrongLength ∈ hn_T := hn_in 442 (by decide +kernel) rfl
theorem mw_444 : Cond.instanceMethod y_Host_isWholeWrongLength ∈ hn_T := hn_in 444 (by decide +kernel) rfl
set_option maxRecDepth 100000 in
theorem mw_445 : Cond.code y_Host_isWholeWrongLength b_Host_isWholeWrongLength 2 (some .boolean) ∈ hn_T := hn_in 445 rfl rfl
theorem mw_446 : Cond.methodLink R_Host 101 y_Labels_allRules ∈ hn_T := hn_in 446 (by decide +kernel) rfl
theorem mw_447 : Cond.instanceMethod y_Labels_allRules ∈ hn_T := hn_in 447 (by decide +kernel) rfl
theorem mw_448 : Cond.selects R_Labels y_Labels_allRules y_Labels_allRules ∈ hn_T := hn_in 448 (by decide +kernel) rfl
set_option maxRecDepth 100000 in
theorem mw_449 : Cond.code y_Labels_allRules b_Labels_allRules 3 (some .int) ∈ hn_T := hn_in 449 rfl rfl
theorem mw_450 : Cond.methodLink R_Law 35 y_Host_length ∈ hn_T := hn_in 450 (by decide +kernel) rfl
theorem mw_451 : Cond.instanceMethod y_Host_length ∈ hn_T := hn_in 451 (by decide +kernel) rfl
theorem mw_452 : Cond.selects R_Host y_Host_length y_Host_length ∈ hn_T := hn_in 452 (by decide +kernel) rfl
set_option maxRecDepth 100000 in
theorem mw_453 : Cond.code y_Host_length b_Host_length 1 (some .int) ∈ hn_T := hn_in 453 rfl rfl
theorem mw_454 : Cond.methodLink R_Law 39 y_Host_at ∈ hn_T := hn_in 454 (by decide +kernel) rfl
theorem mw_455 : Cond.instanceMethod y_Host_at ∈ hn_T := hn_in 455 (by decide +kernel) rfl
theorem mw_456 : Cond.selects R_Host y_Host_at y_Host_at ∈ hn_T := hn_in 456 (by decide +kernel) rfl
set_option maxRecDepth 100000 in
theorem mw_457 : Cond.code y_Host_at b_Host_at 2 (some .int) ∈ hn_T := hn_in 457 rfl rfl
theorem mw_458 : Cond.methodLink R_Law 44 y_Host_labels ∈ hn_T := hn_in 458 (by decide +kernel) rfl
theorem mw_459 : Cond.instanceMethod y_Host_labels ∈ hn_T := hn_in 459 (by decide +kernel) rfl
theorem mw_460 : Cond.selects R_Host y_Host_labels y_Host_labels ∈ hn_T := hn_in 460 (by decide +kernel) rfl
set_option maxRecDepth 100000 in
theorem mw_461 : Cond.code y_Host_labels b_Host_labels 1 (some .int) ∈ hn_T := hn_in 461 rfl rfl
theorem mw_462 : Cond.methodLink R_Law 48 y_Host_broken ∈ hn_T := hn_in 462 (by decide +kernel) rfl
theorem mw_463 : Cond.instanceMethod y_Host_broken ∈ hn_T := hn_in 463 (by decide +kernel) rfl
theorem mw_464 : Cond.selects R_Host y_Host_broken y_Host_broken ∈ hn_T := hn_in 464 (by decide +kernel) rfl
set_option maxRecDepth 100000 in
theorem mw_465 : Cond.code y_Host_broken b_Host_broken 2 (some .int) ∈ hn_T := hn_in 465 rfl rfl
theorem mw_466 : Cond.methodLink R_Law 52 y_Host_pack ∈ hn_T := hn_in 466 (by decide +kernel) rfl
theorem mw_467 : Cond.instanceMethod y_Host_pack ∈ hn_T := hn_in 467 (by decide +kernel) rfl
theorem mw_468 : Cond.selects R_Host y_Host_pack y_Host_pack ∈ hn_T := hn_in 468 (by decide +kernel) rfl
set_option maxRecDepth 100000 in
theorem mw_469 : Cond.code y_Host_pack b_Host_pack 1 (some .int) ∈ hn_T := hn_in 469 rfl rfl
theorem mw_470 : Cond.methodLink R_Law 56 y_Host_unpack ∈ hn_T := hn_in 470 (by decide +kernel) rfl
theorem mw_471 : Cond.instanceMethod y_Host_unpack ∈ hn_T := hn_in 471 (by decide +kernel) rfl
theorem mw_472 : Cond.selects R_Host y_Host_unpack y_Host_unpack ∈ hn_T := hn_in 472 (by decide +kernel) rfl
set_option maxRecDepth 100000 in
theorem mw_473 : Cond.code y_Host_unpack b_Host_unpack 1 (some .boolean) ∈ hn_T := hn_in 473 rfl rfl
theorem mw_474 : Cond.methodLink R_Law 61 y_Host_compose ∈ hn_T := hn_in 474 (by decide +kernel) rfl
theorem mw_475 : Cond.instanceMethod y_Host_compose ∈ hn_T := hn_in 475 (by decide +kernel) rfl
theorem mw_476 : Cond.selects R_Host y_Host_compose y_Host_compose ∈ hn_T := hn_in 476 (by decide +kernel) rfl
set_option maxRecDepth 100000 in
theorem mw_477 : Cond.code y_Host_compose b_Host_compose 1 (some .int) ∈ hn_T := hn_in 477 rfl rfl
theorem mw_478 : Cond.classLink R_Law 10 R_Mod ∈ hn_T := hn_in 478 (by decide +kernel) rfl
theorem mw_479 : Cond.instantiable R_Mod 17 ∈ hn_T := hn_in 479 (by decide +kernel) rfl
theorem mw_480 : Cond.methodLink R_Law 12 y_Mod_init ∈ hn_T := hn_in 480 (by decide +kernel) rfl
theorem mw_481 : Cond.instanceMethod y_Mod_init ∈ hn_T := hn_in 481 (by decide +kernel) rfl
set_option maxRecDepth 100000 in
theorem mw_482 : Cond.code y_Mod_init b_Mod_init 1 none ∈ hn_T := hn_in 482 rfl rfl
theorem mw_483 : Cond.methodLink R_Mod 1 objectInit ∈ hn_T := hn_in 483 (by decide +kernel) rfl
theorem mw_484 : Cond.fieldLink R_Mod 113 "HostNamesModel" "textSize" "I" ∈ hn_T := hn_in 484 (by decide +kernel) rfl
theorem mw_485 : Cond.fieldLink R_Mod 7 "HostNamesModel" "text" "[I" ∈ hn_T := hn_in 485 (by decide +kernel) rfl
theorem mw_486 : Cond.fieldLink R_Mod 77 "HostNamesModel" "size" "I" ∈ hn_T := hn_in 486 (by decide +kernel) rfl
theorem mw_487 : Cond.fieldLink R_Mod 13 "HostNamesModel" "result" "[I" ∈ hn_T := hn_in 487 (by decide +kernel) rfl
theorem mw_488 : Cond.fieldLink R_Mod 64 "HostNamesModel" "rowSize" "I" ∈ hn_T := hn_in 488 (by decide +kernel) rfl
theorem mw_489 : Cond.fieldLink R_Mod 16 "HostNamesModel" "row" "[I" ∈ hn_T := hn_in 489 (by decide +kernel) rfl
theorem mw_490 : Cond.fieldLink R_Mod 19 "HostNamesModel" "other" "[I" ∈ hn_T := hn_in 490 (by decide +kernel) rfl
theorem mw_491 : Cond.fieldLink R_Mod 135 "HostNamesModel" "count" "I" ∈ hn_T := hn_in 491 (by decide +kernel) rfl
theorem mw_492 : Cond.fieldLink R_Mod 22 "HostNamesModel" "starts" "[I" ∈ hn_T := hn_in 492 (by decide +kernel) rfl
theorem mw_493 : Cond.fieldLink R_Mod 25 "HostNamesModel" "sizes" "[I" ∈ hn_T := hn_in 493 (by decide +kernel) rfl
theorem mw_494 : Cond.fieldLink R_Mod 28 "HostNamesModel" "rules" "[I" ∈ hn_T := hn_in 494 (by decide +kernel) rfl
theorem mw_495 : Cond.fieldLink R_Mod 31 "HostNamesModel" "tagged" "[Z" ∈ hn_T := hn_in 495 (by decide +kernel) rfl
theorem mw_496 : Cond.fieldLink R_Mod 132 "HostNamesModel" "poolSize" "I" ∈ hn_T := hn_in 496 (by decide +kernel) rfl
theorem mw_497 : Cond.fieldLink R_Mod 35 "HostNamesModel" "pool" "[I" ∈ hn_T := hn_in 497 (by decide +kernel) rfl
theorem mw_498 : Cond.fieldLink R_Mod 185 "HostNamesModel" "whole" "I" ∈ hn_T := hn_in 498 (by decide +kernel) rfl
theorem mw_499 : Cond.fieldLink R_Mod 38 "HostNamesModel" "placed" "[Z" ∈ hn_T := hn_in 499 (by decide +kernel) rfl
theorem mw_500 : Cond.fieldLink R_Mod 74 "HostNamesModel" "bias" "I" ∈ hn_T := hn_in 500 (by decide +kernel) rfl
theorem mw_536 : Cond.methodLink R_Law 17 y_Mod_put ∈ hn_T := hn_in 536 (by decide +kernel) rfl
theorem mw_537 : Cond.instanceMethod y_Mod_put ∈ hn_T := hn_in 537 (by decide +kernel) rfl
theorem mw_538 : Cond.selects R_Mod y_Mod_put y_Mod_put ∈ hn_T := hn_in 538 (by decide +kernel) rfl
set_option maxRecDepth 100000 in
theorem mw_539 : Cond.code y_Mod_put b_Mod_put 2 (some .boolean) ∈ hn_T := hn_in 539 rfl rfl
theorem mw_540 : Cond.constant R_Mod 110 1114111 ∈ hn_T := hn_in 540 (by decide +kernel) rfl
theorem mw_541 : Cond.methodLink R_Mod 41 y_Mod_within ∈ hn_T := hn_in 541 (by decide +kernel) rfl
theorem mw_542 : Cond.static y_Mod_within ∈ hn_T := hn_in 542 (by decide +kernel) rfl
set_option maxRecDepth 100000 in
theorem mw_543 : Cond.code y_Mod_within b_Mod_within 3 (some .boolean) ∈ hn_T := hn_in 543 rfl rfl
theorem mw_544 : Cond.constant R_Mod 111 55296 ∈ hn_T := hn_in 544 (by decide +kernel) rfl
theorem mw_545 : Cond.constant R_Mod 112 57343 ∈ hn_T := hn_in 545 (by decide +kernel) rfl
theorem mw_546 : Cond.methodLink R_Law 24 y_Mod_type ∈ hn_T := hn_in 546 (by decide +kernel) rfl
theorem mw_547 : Cond.instanceMethod y_Mod_type ∈ hn_T := hn_in 547 (by decide +kernel) rfl
theorem mw_548 : Cond.selects R_Mod y_Mod_type y_Mod_type ∈ hn_T := hn_in 548 (by decide +kernel) rfl
set_option maxRecDepth 100000 in
theorem mw_549 : Cond.code y_Mod_type b_Mod_type 5 (some .boolean) ∈ hn_T := hn_in 549 rfl rfl
theorem mw_550 : Cond.methodLink R_Law 29 y_Mod_clear ∈ hn_T := hn_in 550 (by decide +kernel) rfl
theorem mw_551 : Cond.instanceMethod y_Mod_clear ∈ hn_T := hn_in 551 (by decide +kernel) rfl
theorem mw_552 : Cond.selects R_Mod y_Mod_clear y_Mod_clear ∈ hn_T := hn_in 552 (by decide +kernel) rfl
set_option maxRecDepth 100000 in
theorem mw_553 : Cond.code y_Mod_clear b_Mod_clear 2 (some .int) ∈ hn_T := hn_in 553 rfl rfl
theorem mw_554 : Cond.methodLink R_Law 34 y_Mod_process ∈ hn_T := hn_in 554 (by decide +kernel) rfl
theorem mw_555 : Cond.instanceMethod y_Mod_process ∈ hn_T := hn_in 555 (by decide +kernel) rfl
theorem mw_556 : Cond.selects R_Mod y_Mod_process y_Mod_process ∈ hn_T := hn_in 556 (by decide +kernel) rfl
set_option maxRecDepth 100000 in
theorem mw_557 : Cond.code y_Mod_process b_Mod_process 6 (some .int) ∈ hn_T := hn_in 557 rfl rfl
theorem mw_558 : Cond.methodLink R_Mod 188 y_Mod_mapText ∈ hn_T := hn_in 558 (by decide +kernel) rfl
theorem mw_560 : Cond.instanceMethod y_Mod_mapText ∈ hn_T := hn_in 560 (by decide +kernel) rfl
set_option maxRecDepth 100000 in
theorem mw_561 : Cond.code y_Mod_mapText b_Mod_mapText 7 (some .boolean) ∈ hn_T := hn_in 561 rfl rfl
theorem mw_562 : Cond.methodLink R_Mod 116 y_Mod_isOdd ∈ hn_T := hn_in 562 (by decide +kernel) rfl
theorem mw_563 : Cond.static y_Mod_isOdd ∈ hn_T := hn_in 563 (by decide +kernel) rfl
set_option maxRecDepth 100000 in
theorem mw_564 : Cond.code y_Mod_isOdd b_Mod_isOdd 1 (some .boolean) ∈ hn_T := hn_in 564 rfl rfl
theorem mw_565 : Cond.methodLink R_Mod 119 y_Mod_on ∈ hn_T := hn_in 565 (by decide +kernel) rfl
theorem mw_566 : Cond.static y_Mod_on ∈ hn_T := hn_in 566 (by decide +kernel) rfl
set_option maxRecDepth 100000 in
theorem mw_567 : Cond.code y_Mod_on b_Mod_on 2 (some .boolean) ∈ hn_T := hn_in 567 rfl rfl
theorem mw_568 : Cond.methodLink R_Mod 123 y_Mod_image ∈ hn_T := hn_in 568 (by decide +kernel) rfl
theorem mw_569 : Cond.static y_Mod_image ∈ hn_T := hn_in 569 (by decide +kernel) rfl
set_option maxRecDepth 100000 in
theorem mw_570 : Cond.code y_Mod_image b_Mod_image 2 (some .int) ∈ hn_T := hn_in 570 rfl rfl
theorem mw_571 : Cond.constant R_Mod 54 65281 ∈ hn_T := hn_in 571 (by decide +kernel) rfl
theorem mw_572 : Cond.constant R_Mod 55 65374 ∈ hn_T := hn_in 572 (by decide +kernel) rfl
theorem mw_573 : Cond.constant R_Mod 56 65248 ∈ hn_T := hn_in 573 (by decide +kernel) rfl
theorem mw_574 : Cond.methodLink R_Mod 126 y_Mod_add ∈ hn_T := hn_in 574 (by decide +kernel) rfl
theorem mw_576 : Cond.instanceMethod y_Mod_add ∈ hn_T := hn_in 576 (by decide +kernel) rfl
set_option maxRecDepth 100000 in
theorem mw_577 : Cond.code y_Mod_add b_Mod_add 2 none ∈ hn_T := hn_in 577 rfl rfl
theorem mw_578 : Cond.methodLink R_Mod 129 y_Mod_isPlain ∈ hn_T := hn_in 578 (by decide +kernel) rfl
theorem mw_579 : Cond.static y_Mod_isPlain ∈ hn_T := hn_in 579 (by decide +kernel) rfl
set_option maxRecDepth 100000 in
theorem mw_580 : Cond.code y_Mod_isPlain b_Mod_isPlain 1 (some .boolean) ∈ hn_T := hn_in 580 rfl rfl
theorem mw_581 : Cond.methodLink R_Mod 50 y_Mod_isGood ∈ hn_T := hn_in 581 (by decide +kernel) rfl
theorem mw_582 : Cond.static y_Mod_isGood ∈ hn_T := hn_in 582 (by decide +kernel) rfl
set_option maxRecDepth 100000 in
theorem mw_583 : Cond.code y_Mod_isGood b_Mod_isGood 3 (some .boolean) ∈ hn_T := hn_in 583 rfl rfl
theorem mw_584 : Cond.methodLink R_Mod 45 y_Mod_order ∈ hn_T := hn_in 584 (by decide +kernel) rfl
theorem mw_585 : Cond.static y_Mod_order ∈ hn_T := hn_in 585 (by decide +kernel) rfl
set_option maxRecDepth 100000 in
theorem mw_586 : Cond.code y_Mod_order b_Mod_order 1 (some .int) ∈ hn_T := hn_in 586 rfl rfl
theorem mw_587 : Cond.constant R_Mod 49 40959 ∈ hn_T := hn_in 587 (by decide +kernel) rfl
theorem mw_588 : Cond.methodLink R_Mod 151 y_Mod_composeRow ∈ hn_T := hn_in 588 (by decide +kernel) rfl
theorem mw_590 : Cond.instanceMethod y_Mod_composeRow ∈ hn_T := hn_in 590 (by decide +kernel) rfl
set_option maxRecDepth 100000 in
theorem mw_591 : Cond.code y_Mod_composeRow b_Mod_composeRow 7 none ∈ hn_T := hn_in 591 rfl rfl
theorem mw_592 : Cond.methodLink R_Mod 71 y_Mod_takeApart ∈ hn_T := hn_in 592 (by decide +kernel) rfl
theorem mw_594 : Cond.instanceMethod y_Mod_takeApart ∈ hn_T := hn_in 594 (by decide +kernel) rfl
set_option maxRecDepth 100000 in
theorem mw_595 : Cond.code y_Mod_takeApart b_Mod_takeApart 5 none ∈ hn_T := hn_in 595 rfl rfl
theorem mw_596 : Cond.methodLink R_Mod 61 y_Mod_letterOf ∈ hn_T := hn_in 596 (by decide +kernel) rfl
theorem mw_597 : Cond.static y_Mod_letterOf ∈ hn_T := hn_in 597 (by decide +kernel) rfl
set_option maxRecDepth 100000 in
theorem mw_598 : Cond.code y_Mod_letterOf b_Mod_letterOf 4 (some .int) ∈ hn_T := hn_in 598 rfl rfl
theorem mw_599 : Cond.methodLink R_Mod 57 y_Mod_pair ∈ hn_T := hn_in 599 (by decide +kernel) rfl
theorem mw_600 : Cond.static y_Mod_pair ∈ hn_T := hn_in 600 (by decide +kernel) rfl
set_option maxRecDepth 100000 in
theorem mw_601 : Cond.code y_Mod_pair b_Mod_pair 4 (some .int) ∈ hn_T := hn_in 601 rfl rfl
theorem mw_602 : Cond.methodLink R_Mod 68 y_Mod_markOf ∈ hn_T := hn_in 602 (by decide +kernel) rfl
theorem mw_603 : Cond.static y_Mod_markOf ∈ hn_T := hn_in 603 (by decide +kernel) rfl
set_option maxRecDepth 100000 in
theorem mw_604 : Cond.code y_Mod_markOf b_Mod_markOf 2 (some .int) ∈ hn_T := hn_in 604 rfl rfl
theorem mw_605 : Cond.methodLink R_Mod 191 y_Mod_cut ∈ hn_T := hn_in 605 (by decide +kernel) rfl
theorem mw_607 : Cond.instanceMethod y_Mod_cut ∈ hn_T := hn_in 607 (by decide +kernel) rfl
set_option maxRecDepth 100000 in
theorem mw_608 : Cond.code y_Mod_cut b_Mod_cut 2 none ∈ hn_T := hn_in 608 rfl rfl
theorem mw_609 : Cond.methodLink R_Mod 194 y_Mod_open ∈ hn_T := hn_in 609 (by decide +kernel) rfl
theorem mw_611 : Cond.instanceMethod y_Mod_open ∈ hn_T := hn_in 611 (by decide +kernel) rfl
set_option maxRecDepth 100000 in
theorem mw_612 : Cond.code y_Mod_open b_Mod_open 5 none ∈ hn_T := hn_in 612 rfl rfl
theorem mw_613 : Cond.methodLink R_Mod 138 y_Mod_fetch ∈ hn_T := hn_in 613 (by decide +kernel) rfl
theorem mw_615 : Cond.instanceMethod y_Mod_fetch ∈ hn_T := hn_in 615 (by decide +kernel) rfl
set_option maxRecDepth 100000 in
theorem mw_616 : Cond.code y_Mod_fetch b_Mod_fetch 3 none ∈ hn_T := hn_in 616 rfl rfl
theorem mw_617 : Cond.methodLink R_Mod 141 y_Mod_hasTag ∈ hn_T := hn_in 617 (by decide +kernel) rfl
theorem mw_619 : Cond.instanceMethod y_Mod_hasTag ∈ hn_T := hn_in 619 (by decide +kernel) rfl
set_option maxRecDepth 100000 in
theorem mw_620 : Cond.code y_Mod_hasTag b_Mod_hasTag 1 (some .boolean) ∈ hn_T := hn_in 620 rfl rfl
theorem mw_621 : Cond.methodLink R_Mod 145 y_Mod_unpackRow ∈ hn_T := hn_in 621 (by decide +kernel) rfl
theorem mw_623 : Cond.instanceMethod y_Mod_unpackRow ∈ hn_T := hn_in 623 (by decide +kernel) rfl
set_option maxRecDepth 100000 in
theorem mw_624 : Cond.code y_Mod_unpackRow b_Mod_unpackRow 17 (some .boolean) ∈ hn_T := hn_in 624 rfl rfl
theorem mw_625 : Cond.constantLong R_Mod 101 128 ∈ hn_T := hn_in 625 (by decide +kernel) rfl
theorem mw_626 : Cond.methodLink R_Mod 103 y_Mod_digit ∈ hn_T := hn_in 626 (by decide +kernel) rfl
theorem mw_627 : Cond.static y_Mod_digit ∈ hn_T := hn_in 627 (by decide +kernel) rfl
set_option maxRecDepth 100000 in
theorem mw_628 : Cond.code y_Mod_digit b_Mod_digit 1 (some .int) ∈ hn_T := hn_in 628 rfl rfl
theorem mw_629 : Cond.methodLink R_Mod 84 y_Mod_threshold ∈ hn_T := hn_in 629 (by decide +kernel) rfl
theorem mw_631 : Cond.instanceMethod y_Mod_threshold ∈ hn_T := hn_in 631 (by decide +kernel) rfl
set_option maxRecDepth 100000 in
theorem mw_632 : Cond.code y_Mod_threshold b_Mod_threshold 3 (some .int) ∈ hn_T := hn_in 632 rfl rfl
theorem mw_633 : Cond.constantLong R_Mod 106 2147483647 ∈ hn_T := hn_in 633 (by decide +kernel) rfl
theorem mw_634 : Cond.methodLink R_Mod 97 y_Mod_adapt ∈ hn_T := hn_in 634 (by decide +kernel) rfl
theorem mw_636 : Cond.instanceMethod y_Mod_adapt ∈ hn_T := hn_in 636 (by decide +kernel) rfl
set_option maxRecDepth 100000 in
theorem mw_637 : Cond.code y_Mod_adapt b_Mod_adapt 6 none ∈ hn_T := hn_in 637 rfl rfl
theorem mw_638 : Cond.constantLong R_Mod 108 1114111 ∈ hn_T := hn_in 638 (by decide +kernel) rfl
theorem mw_639 : Cond.methodLink R_Mod 148 y_Mod_keep ∈ hn_T := hn_in 639 (by decide +kernel) rfl
theorem mw_641 : Cond.instanceMethod y_Mod_keep ∈ hn_T := hn_in 641 (by decide +kernel) rfl
set_option maxRecDepth 100000 in
theorem mw_642 : Cond.code y_Mod_keep b_Mod_keep 3 none ∈ hn_T := hn_in 642 rfl rfl
theorem mw_643 : Cond.methodLink R_Mod 197 y_Mod_anyRight ∈ hn_T := hn_in 643 (by decide +kernel) rfl
theorem mw_645 : Cond.instanceMethod y_Mod_anyRight ∈ hn_T := hn_in 645 (by decide +kernel) rfl
set_option maxRecDepth 100000 in
theorem mw_646 : Cond.code y_Mod_anyRight b_Mod_anyRight 4 (some .boolean) ∈ hn_T := hn_in 646 rfl rfl
theorem mw_647 : Cond.methodLink R_Mod 154 y_Mod_codeOf ∈ hn_T := hn_in 647 (by decide +kernel) rfl
theorem mw_649 : Cond.instanceMethod y_Mod_codeOf ∈ hn_T := hn_in 649 (by decide +kernel) rfl
set_option maxRecDepth 100000 in
theorem mw_650 : Cond.code y_Mod_codeOf b_Mod_codeOf 3 (some .int) ∈ hn_T := hn_in 650 rfl rfl
theorem mw_651 : Cond.methodLink R_Mod 164 y_Mod_direction ∈ hn_T := hn_in 651 (by decide +kernel) rfl
theorem mw_652 : Cond.static y_Mod_direction ∈ hn_T := hn_in 652 (by decide +kernel) rfl
set_option maxRecDepth 100000 in
theorem mw_653 : Cond.code y_Mod_direction b_Mod_direction 1 (some .int) ∈ hn_T := hn_in 653 rfl rfl
theorem mw_654 : Cond.methodLink R_Mod 200 y_Mod_check ∈ hn_T := hn_in 654 (by decide +kernel) rfl
theorem mw_656 : Cond.instanceMethod y_Mod_check ∈ hn_T := hn_in 656 (by decide +kernel) rfl
set_option maxRecDepth 100000 in
theorem mw_657 : Cond.code y_Mod_check b_Mod_check 5 (some .int) ∈ hn_T := hn_in 657 rfl rfl
theorem mw_658 : Cond.methodLink R_Mod 167 y_Mod_composed ∈ hn_T := hn_in 658 (by decide +kernel) rfl
theorem mw_660 : Cond.instanceMethod y_Mod_composed ∈ hn_T := hn_in 660 (by decide +kernel) rfl
set_option maxRecDepth 100000 in
theorem mw_661 : Cond.code y_Mod_composed b_Mod_composed 4 (some .boolean) ∈ hn_T := hn_in 661 rfl rfl
theorem mw_662 : Cond.methodLink R_Mod 170 y_Mod_hyphenRules ∈ hn_T := hn_in 662 (by decide +kernel) rfl
theorem mw_664 : Cond.instanceMethod y_Mod_hyphenRules ∈ hn_T := hn_in 664 (by decide +kernel) rfl
set_option maxRecDepth 100000 in
theorem mw_665 : Cond.code y_Mod_hyphenRules b_Mod_hyphenRules 4 (some .int) ∈ hn_T := hn_in 665 rfl rfl
theorem mw_666 : Cond.methodLink R_Mod 173 y_Mod_allGood ∈ hn_T := hn_in 666 (by decide +kernel) rfl
theorem mw_668 : Cond.instanceMethod y_Mod_allGood ∈ hn_T := hn_in 668 (by decide +kernel) rfl
set_option maxRecDepth 100000 in
theorem mw_669 : Cond.code y_Mod_allGood b_Mod_allGood 7 (some .boolean) ∈ hn_T := hn_in 669 rfl rfl
theorem mw_670 : Cond.methodLink R_Mod 176 y_Mod_joinersRight ∈ hn_T := hn_in 670 (by decide +kernel) rfl
theorem mw_672 : Cond.instanceMethod y_Mod_joinersRight ∈ hn_T := hn_in 672 (by decide +kernel) rfl
set_option maxRecDepth 100000 in
theorem mw_673 : Cond.code y_Mod_joinersRight b_Mod_joinersRight 8 (some .boolean) ∈ hn_T := hn_in 673 rfl rfl
theorem mw_674 : Cond.methodLink R_Mod 160 y_Mod_across ∈ hn_T := hn_in 674 (by decide +kernel) rfl
theorem mw_676 : Cond.instanceMethod y_Mod_across ∈ hn_T := hn_in 676 (by decide +kernel) rfl
set_option maxRecDepth 100000 in
theorem mw_677 : Cond.code y_Mod_across b_Mod_across 5 (some .int) ∈ hn_T := hn_in 677 rfl rfl
theorem mw_678 : Cond.methodLink R_Mod 157 y_Mod_joins ∈ hn_T := hn_in 678 (by decide +kernel) rfl
theorem mw_679 : Cond.static y_Mod_joins ∈ hn_T := hn_in 679 (by decide +kernel) rfl
set_option maxRecDepth 100000 in
theorem mw_680 : Cond.code y_Mod_joins b_Mod_joins 1 (some .int) ∈ hn_T := hn_in 680 rfl rfl
theorem mw_681 : Cond.methodLink R_Mod 179 y_Mod_directed ∈ hn_T := hn_in 681 (by decide +kernel) rfl
theorem mw_683 : Cond.instanceMethod y_Mod_directed ∈ hn_T := hn_in 683 (by decide +kernel) rfl
set_option maxRecDepth 100000 in
theorem mw_684 : Cond.code y_Mod_directed b_Mod_directed 8 (some .boolean) ∈ hn_T := hn_in 684 rfl rfl
theorem mw_685 : Cond.methodLink R_Mod 204 y_Mod_give ∈ hn_T := hn_in 685 (by decide +kernel) rfl
theorem mw_687 : Cond.instanceMethod y_Mod_give ∈ hn_T := hn_in 687 (by decide +kernel) rfl
set_option maxRecDepth 100000 in
theorem mw_688 : Cond.code y_Mod_give b_Mod_give 8 none ∈ hn_T := hn_in 688 rfl rfl
theorem mw_689 : Cond.methodLink R_Mod 80 y_Mod_out ∈ hn_T := hn_in 689 (by decide +kernel) rfl
theorem mw_691 : Cond.instanceMethod y_Mod_out ∈ hn_T := hn_in 691 (by decide +kernel) rfl
set_option maxRecDepth 100000 in
theorem mw_692 : Cond.code y_Mod_out b_Mod_out 2 none ∈ hn_T := hn_in 692 rfl rfl
theorem mw_693 : Cond.methodLink R_Mod 182 y_Mod_packRow ∈ hn_T := hn_in 693 (by decide +kernel) rfl
theorem mw_695 : Cond.instanceMethod y_Mod_packRow ∈ hn_T := hn_in 695 (by decide +kernel) rfl
set_option maxRecDepth 100000 in
theorem mw_696 : Cond.code y_Mod_packRow b_Mod_packRow 8 none ∈ hn_T := hn_in 696 rfl rfl
theorem mw_697 : Cond.methodLink R_Mod 90 y_Mod_leastLeft ∈ hn_T := hn_in 697 (by decide +kernel) rfl
theorem mw_699 : Cond.instanceMethod y_Mod_leastLeft ∈ hn_T := hn_in 699 (by decide +kernel) rfl
set_option maxRecDepth 100000 in
theorem mw_700 : Cond.code y_Mod_leastLeft b_Mod_leastLeft 3 (some .int) ∈ hn_T := hn_in 700 rfl rfl
theorem mw_701 : Cond.methodLink R_Mod 94 y_Mod_outNumber ∈ hn_T := hn_in 701 (by decide +kernel) rfl
theorem mw_703 : Cond.instanceMethod y_Mod_outNumber ∈ hn_T := hn_in 703 (by decide +kernel) rfl
set_option maxRecDepth 100000 in
theorem mw_704 : Cond.code y_Mod_outNumber b_Mod_outNumber 5 none ∈ hn_T := hn_in 704 rfl rfl
theorem mw_705 : Cond.methodLink R_Mod 87 y_Mod_outDigit ∈ hn_T := hn_in 705 (by decide +kernel) rfl
theorem mw_707 : Cond.instanceMethod y_Mod_outDigit ∈ hn_T := hn_in 707 (by decide +kernel) rfl
set_option maxRecDepth 100000 in
theorem mw_708 : Cond.code y_Mod_outDigit b_Mod_outDigit 2 none ∈ hn_T := hn_in 708 rfl rfl
theorem mw_709 : Cond.methodLink R_Law 38 y_Mod_length ∈ hn_T := hn_in 709 (by decide +kernel) rfl
theorem mw_710 : Cond.instanceMethod y_Mod_length ∈ hn_T := hn_in 710 (by decide +kernel) rfl
theorem mw_711 : Cond.selects R_Mod y_Mod_length y_Mod_length ∈ hn_T := hn_in 711 (by decide +kernel) rfl
set_option maxRecDepth 100000 in
theorem mw_712 : Cond.code y_Mod_length b_Mod_length 1 (some .int) ∈ hn_T := hn_in 712 rfl rfl
theorem mw_713 : Cond.methodLink R_Law 43 y_Mod_at ∈ hn_T := hn_in 713 (by decide +kernel) rfl
theorem mw_714 : Cond.instanceMethod y_Mod_at ∈ hn_T := hn_in 714 (by decide +kernel) rfl
theorem mw_715 : Cond.selects R_Mod y_Mod_at y_Mod_at ∈ hn_T := hn_in 715 (by decide +kernel) rfl
set_option maxRecDepth 100000 in
theorem mw_716 : Cond.code y_Mod_at b_Mod_at 2 (some .int) ∈ hn_T := hn_in 716 rfl rfl
theorem mw_717 : Cond.methodLink R_Law 47 y_Mod_labels ∈ hn_T := hn_in 717 (by decide +kernel) rfl
theorem mw_718 : Cond.instanceMethod y_Mod_labels ∈ hn_T := hn_in 718 (by decide +kernel) rfl
theorem mw_719 : Cond.selects R_Mod y_Mod_labels y_Mod_labels ∈ hn_T := hn_in 719 (by decide +kernel) rfl
set_option maxRecDepth 100000 in
theorem mw_720 : Cond.code y_Mod_labels b_Mod_labels 1 (some .int) ∈ hn_T := hn_in 720 rfl rfl
theorem mw_721 : Cond.methodLink R_Law 51 y_Mod_broken ∈ hn_T := hn_in 721 (by decide +kernel) rfl
theorem mw_722 : Cond.instanceMethod y_Mod_broken ∈ hn_T := hn_in 722 (by decide +kernel) rfl
theorem mw_723 : Cond.selects R_Mod y_Mod_broken y_Mod_broken ∈ hn_T := hn_in 723 (by decide +kernel) rfl
set_option maxRecDepth 100000 in
theorem mw_724 : Cond.code y_Mod_broken b_Mod_broken 2 (some .int) ∈ hn_T := hn_in 724 rfl rfl
theorem mw_725 : Cond.methodLink R_Law 55 y_Mod_pack ∈ hn_T := hn_in 725 (by decide +kernel) rfl
theorem mw_726 : Cond.instanceMethod y_Mod_pack ∈ hn_T := hn_in 726 (by decide +kernel) rfl
theorem mw_727 : Cond.selects R_Mod y_Mod_pack y_Mod_pack ∈ hn_T := hn_in 727 (by decide +kernel) rfl
set_option maxRecDepth 100000 in
theorem mw_728 : Cond.code y_Mod_pack b_Mod_pack 1 (some .int) ∈ hn_T := hn_in 728 rfl rfl
theorem mw_729 : Cond.methodLink R_Mod 208 y_Mod_takeText ∈ hn_T := hn_in 729 (by decide +kernel) rfl
theorem mw_731 : Cond.instanceMethod y_Mod_takeText ∈ hn_T := hn_in 731 (by decide +kernel) rfl
set_option maxRecDepth 100000 in
theorem mw_732 : Cond.code y_Mod_takeText b_Mod_takeText 2 none ∈ hn_T := hn_in 732 rfl rfl
theorem mw_733 : Cond.methodLink R_Law 60 y_Mod_unpack ∈ hn_T := hn_in 733 (by decide +kernel) rfl
theorem mw_734 : Cond.instanceMethod y_Mod_unpack ∈ hn_T := hn_in 734 (by decide +kernel) rfl
theorem mw_735 : Cond.selects R_Mod y_Mod_unpack y_Mod_unpack ∈ hn_T := hn_in 735 (by decide +kernel) rfl
set_option maxRecDepth 100000 in
theorem mw_736 : Cond.code y_Mod_unpack b_Mod_unpack 1 (some .boolean) ∈ hn_T := hn_in 736 rfl rfl
theorem mw_737 : Cond.methodLink R_Mod 211 y_Mod_giveRow ∈ hn_T := hn_in 737 (by decide +kernel) rfl
theorem mw_739 : Cond.instanceMethod y_Mod_giveRow ∈ hn_T := hn_in 739 (by decide +kernel) rfl
set_option maxRecDepth 100000 in
theorem mw_740 : Cond.code y_Mod_giveRow b_Mod_giveRow 2 none ∈ hn_T := hn_in 740 rfl rfl
theorem mw_741 : Cond.methodLink R_Law 64 y_Mod_compose ∈ hn_T := hn_in 741 (by decide +kernel) rfl
theorem mw_742 : Cond.instanceMethod y_Mod_compose ∈ hn_T := hn_in 742 (by decide +kernel) rfl
theorem mw_743 : Cond.selects R_Mod y_Mod_compose y_Mod_compose ∈ hn_T := hn_in 743 (by decide +kernel) rfl
set_option maxRecDepth 100000 in
theorem mw_744 : Cond.code y_Mod_compose b_Mod_compose 1 (some .int) ∈ hn_T := hn_in 744 rfl rfl
theorem mw_745 : Cond.constantLong R_Law 18 4294967295 ∈ hn_T := hn_in 745 (by decide +kernel) rfl
theorem ms_0 : Cond.selects R_Host y_Host_mapText y_Host_mapText ∈ hn_T := hn_inS 0 (by decide +kernel) rfl
theorem ms_1 : Cond.selects R_Host y_Host_mapCode y_Host_mapCode ∈ hn_T := hn_inS 1 (by decide +kernel) rfl
theorem ms_2 : Cond.selects R_Host y_Host_mapOdd y_Host_mapOdd ∈ hn_T := hn_inS 2 (by decide +kernel) rfl
theorem ms_3 : Cond.selects R_Composer y_Composer_takeApart y_Composer_takeApart ∈ hn_T := hn_inS 3 (by decide +kernel) rfl
theorem ms_4 : Cond.selects R_Composer y_Composer_sortMarks y_Composer_sortMarks ∈ hn_T := hn_inS 4 (by decide +kernel) rfl
theorem ms_5 : Cond.selects R_Composer y_Composer_join y_Composer_join ∈ hn_T := hn_inS 5 (by decide +kernel) rfl
theorem ms_6 : Cond.selects R_Host y_Host_cutIntoLabels y_Host_cutIntoLabels ∈ hn_T := hn_inS 6 (by decide +kernel) rfl
theorem ms_7 : Cond.selects R_Host y_Host_keepLabel y_Host_keepLabel ∈ hn_T := hn_inS 7 (by decide +kernel) rfl
theorem ms_8 : Cond.selects R_Packer y_Packer_readBasic y_Packer_readBasic ∈ hn_T := hn_inS 8 (by decide +kernel) rfl
theorem ms_9 : Cond.selects R_Packer y_Packer_readNumber y_Packer_readNumber ∈ hn_T := hn_inS 9 (by decide +kernel) rfl
theorem ms_10 : Cond.selects R_Packer y_Packer_threshold y_Packer_threshold ∈ hn_T := hn_inS 10 (by decide +kernel) rfl
theorem ms_11 : Cond.selects R_Packer y_Packer_adapt y_Packer_adapt ∈ hn_T := hn_inS 11 (by decide +kernel) rfl
theorem ms_12 : Cond.selects R_Host y_Host_checkLabels y_Host_checkLabels ∈ hn_T := hn_inS 12 (by decide +kernel) rfl
theorem ms_13 : Cond.selects R_Host y_Host_writeResult y_Host_writeResult ∈ hn_T := hn_inS 13 (by decide +kernel) rfl
theorem ms_14 : Cond.selects R_Host y_Host_writeLabel y_Host_writeLabel ∈ hn_T := hn_inS 14 (by decide +kernel) rfl
theorem ms_15 : Cond.selects R_Packer y_Packer_writeNumber y_Packer_writeNumber ∈ hn_T := hn_inS 15 (by decide +kernel) rfl
theorem ms_16 : Cond.selects R_Host y_Host_isWrongLength y_Host_isWrongLength ∈ hn_T := hn_inS 16 (by decide +kernel) rfl
theorem ms_17 : Cond.selects R_Host y_Host_isWholeWrongLength y_Host_isWholeWrongLength ∈ hn_T := hn_inS 17 (by decide +kernel) rfl
theorem ms_18 : Cond.selects R_Mod y_Mod_mapText y_Mod_mapText ∈ hn_T := hn_inS 18 (by decide +kernel) rfl
theorem ms_19 : Cond.selects R_Mod y_Mod_add y_Mod_add ∈ hn_T := hn_inS 19 (by decide +kernel) rfl
theorem ms_20 : Cond.selects R_Mod y_Mod_composeRow y_Mod_composeRow ∈ hn_T := hn_inS 20 (by decide +kernel) rfl
theorem ms_21 : Cond.selects R_Mod y_Mod_takeApart y_Mod_takeApart ∈ hn_T := hn_inS 21 (by decide +kernel) rfl
theorem ms_22 : Cond.selects R_Mod y_Mod_cut y_Mod_cut ∈ hn_T := hn_inS 22 (by decide +kernel) rfl
theorem ms_23 : Cond.selects R_Mod y_Mod_open y_Mod_open ∈ hn_T := hn_inS 23 (by decide +kernel) rfl
theorem ms_24 : Cond.selects R_Mod y_Mod_fetch y_Mod_fetch ∈ hn_T := hn_inS 24 (by decide +kernel) rfl
theorem ms_25 : Cond.selects R_Mod y_Mod_hasTag y_Mod_hasTag ∈ hn_T := hn_inS 25 (by decide +kernel) rfl
theorem ms_26 : Cond.selects R_Mod y_Mod_unpackRow y_Mod_unpackRow ∈ hn_T := hn_inS 26 (by decide +kernel) rfl
theorem ms_27 : Cond.selects R_Mod y_Mod_threshold y_Mod_threshold ∈ hn_T := hn_inS 27 (by decide +kernel) rfl
theorem ms_28 : Cond.selects R_Mod y_Mod_adapt y_Mod_adapt ∈ hn_T := hn_inS 28 (by decide +kernel) rfl
theorem ms_29 : Cond.selects R_Mod y_Mod_keep y_Mod_keep ∈ hn_T := hn_inS 29 (by decide +kernel) rfl
theorem ms_30 : Cond.selects R_Mod y_Mod_anyRight y_Mod_anyRight ∈ hn_T := hn_inS 30 (by decide +kernel) rfl
theorem ms_31 : Cond.selects R_Mod y_Mod_codeOf y_Mod_codeOf ∈ hn_T := hn_inS 31 (by decide +kernel) rfl
theorem ms_32 : Cond.selects R_Mod y_Mod_check y_Mod_check ∈ hn_T := hn_inS 32 (by decide +kernel) rfl
theorem ms_33 : Cond.selects R_Mod y_Mod_composed y_Mod_composed ∈ hn_T := hn_inS 33 (by decide +kernel) rfl
theorem ms_34 : Cond.selects R_Mod y_Mod_hyphenRules y_Mod_hyphenRules ∈ hn_T := hn_inS 34 (by decide +kernel) rfl
theorem ms_35 : Cond.selects R_Mod y_Mod_allGood y_Mod_allGood ∈ hn_T := hn_inS 35 (by decide +kernel) rfl
theorem ms_36 : Cond.selects R_Mod y_Mod_joinersRight y_Mod_joinersRight ∈ hn_T := hn_inS 36 (by decide +kernel) rfl
theorem ms_37 : Cond.selects R_Mod y_Mod_across y_Mod_across ∈ hn_T := hn_inS 37 (by decide +kernel) rfl
theorem ms_38 : Cond.selects R_Mod y_Mod_directed y_Mod_directed ∈ hn_T := hn_inS 38 (by decide +kernel) rfl
theorem ms_39 : Cond.selects R_Mod y_Mod_give y_Mod_give ∈ hn_T := hn_inS 39 (by decide +kernel) rfl
theorem ms_40 : Cond.selects R_Mod y_Mod_out y_Mod_out ∈ hn_T := hn_inS 40 (by decide +kernel) rfl
theorem ms_41 : Cond.selects R_Mod y_Mod_packRow y_Mod_packRow ∈ hn_T := hn_inS 41 (by decide +kernel) rfl
theorem ms_42 : Cond.selects R_Mod y_Mod_leastLeft y_Mod_leastLeft ∈ hn_T := hn_inS 42 (by decide +kernel) rfl
theorem ms_43 : Cond.selects R_Mod y_Mod_outNumber y_Mod_outNumber ∈ hn_T := hn_inS 43 (by decide +kernel) rfl
theorem ms_44 : Cond.selects R_Mod y_Mod_outDigit y_Mod_outDigit ∈ hn_T := hn_inS 44 (by decide +kernel) rfl
theorem ms_45 : Cond.selects R_Mod y_Mod_takeText y_Mod_takeText ∈ hn_T := hn_inS 45 (by decide +kernel) rfl
theorem ms_46 : Cond.selects R_Mod y_Mod_giveRow y_Mod_giveRow ∈ hn_T := hn_inS 46 (by decide +kernel) rfl
theorem kc_Row : ∀ w ∈ u_ws R_Row F_Row 2, w ∈ hn_T := by decide +kernel
theorem kc_Labels : ∀ w ∈ u_ws R_Labels F_Labels 5, w ∈ hn_T := by decide +kernel
theorem kc_Composer : ∀ w ∈ u_ws R_Composer F_Composer 1, w ∈ hn_T := by decide +kernel
theorem kc_Packer : ∀ w ∈ u_ws R_Packer F_Packer 2, w ∈ hn_T := by decide +kernel
theorem kc_Checker : ∀ w ∈ u_ws R_Checker F_Checker 2, w ∈ hn_T := by decide +kernel
theorem kc_Host : ∀ w ∈ u_ws R_Host F_Host 10, w ∈ hn_T := by decide +kernel
theorem kc_Mod : ∀ w ∈ u_ws R_Mod F_Mod 17, w ∈ hn_T := by decide +kernel
end
section
/-! ===== pure steps: guards, loops with fuel ===== -/
/-- how many rounds a loop may take -/
def fu : Nat := 100000
theorem ite_t {α : Type} {c : Prop} {dc : Decidable c} {a b : Option α} {o : α} (hc : c) (h : (@ite _ c dc a b) = some o) : a = some o := by
  rwa [if_pos hc] at h
theorem ite_f {α : Type} {c : Prop} {dc : Decidable c} {a b : Option α} {o : α} (hc : ¬ c) (h : (@ite _ c dc a b) = some o) : b = some o := by
  rwa [if_neg hc] at h
theorem bd_s {α β : Type} {x : Option α} {f : α → Option β} {o : β} (h : Option.bind x f = some o) : ∃ a, x = some a ∧ f a = some o := by
  cases x with
  | none => cases h
  | some a => exact ⟨a, rfl, h⟩
theorem no_s {α : Type} {o : α} {P : Prop} (h : (none : Option α) = some o) : P := by cases h
def gb {O : Type} (v : Int32) (a : Option O) : Option O := if v = 0 ∨ v = 1 then a else none
theorem gb_s {O : Type} {v : Int32} {a : Option O} {o : O} (h : gb v a = some o) : narrow .boolean (.int v) = .int v ∧ a = some o := by
  unfold gb at h
  by_cases hc : v = 0 ∨ v = 1
  · rw [if_pos hc] at h
    refine ⟨?_, h⟩
    rcases hc with rfl | rfl <;> rfl
  · rw [if_neg hc] at h; cases h
def gi {O : Type} (i : Int32) (N : Nat) (a : Option O) : Option O := if i < 0 ∨ N ≤ i.toNatClampNeg then none else a
theorem gi_s {O : Type} {i : Int32} {N : Nat} {a : Option O} {o : O} (h : gi i N a = some o) : vp_in i N ∧ a = some o := by
  unfold gi at h
  by_cases hc : i < 0 ∨ N ≤ i.toNatClampNeg
  · rw [if_pos hc] at h; cases h
  · rw [if_neg hc] at h; exact ⟨hc, h⟩
def gz {O : Type} (y : Int32) (a : Option O) : Option O := if y = 0 then none else a
theorem gz_s {O : Type} {y : Int32} {a : Option O} {o : O} (h : gz y a = some o) : ¬ y = 0 ∧ a = some o := by
  unfold gz at h
  by_cases hc : y = 0
  · rw [if_pos hc] at h; cases h
  · rw [if_neg hc] at h; exact ⟨hc, h⟩
def gzl {O : Type} (y : Int64) (a : Option O) : Option O := if y = 0 then none else a
theorem gzl_s {O : Type} {y : Int64} {a : Option O} {o : O} (h : gzl y a = some o) : ¬ y = 0 ∧ a = some o := by
  unfold gzl at h
  by_cases hc : y = 0
  · rw [if_pos hc] at h; cases h
  · rw [if_neg hc] at h; exact ⟨hc, h⟩
def fl1 {A1 O : Type} (b : (A1 → Option O) → A1 → Option O) : Nat → A1 → Option O
  | 0 => fun _ => none
  | k + 1 => b (fl1 b k)
theorem fl1_s {A1 O : Type} (b : (A1 → Option O) → A1 → Option O) (k : Nat) : fl1 b (k + 1) = b (fl1 b k) := rfl
def fl2 {A1 A2 O : Type} (b : (A1 → A2 → Option O) → A1 → A2 → Option O) : Nat → A1 → A2 → Option O
  | 0 => fun _ _ => none
  | k + 1 => b (fl2 b k)
theorem fl2_s {A1 A2 O : Type} (b : (A1 → A2 → Option O) → A1 → A2 → Option O) (k : Nat) : fl2 b (k + 1) = b (fl2 b k) := rfl
def fl3 {A1 A2 A3 O : Type} (b : (A1 → A2 → A3 → Option O) → A1 → A2 → A3 → Option O) : Nat → A1 → A2 → A3 → Option O
  | 0 => fun _ _ _ => none
  | k + 1 => b (fl3 b k)
theorem fl3_s {A1 A2 A3 O : Type} (b : (A1 → A2 → A3 → Option O) → A1 → A2 → A3 → Option O) (k : Nat) : fl3 b (k + 1) = b (fl3 b k) := rfl
def fl4 {A1 A2 A3 A4 O : Type} (b : (A1 → A2 → A3 → A4 → Option O) → A1 → A2 → A3 → A4 → Option O) : Nat → A1 → A2 → A3 → A4 → Option O
  | 0 => fun _ _ _ _ => none
  | k + 1 => b (fl4 b k)
theorem fl4_s {A1 A2 A3 A4 O : Type} (b : (A1 → A2 → A3 → A4 → Option O) → A1 → A2 → A3 → A4 → Option O) (k : Nat) : fl4 b (k + 1) = b (fl4 b k) := rfl
def fl5 {A1 A2 A3 A4 A5 O : Type} (b : (A1 → A2 → A3 → A4 → A5 → Option O) → A1 → A2 → A3 → A4 → A5 → Option O) : Nat → A1 → A2 → A3 → A4 → A5 → Option O
  | 0 => fun _ _ _ _ _ => none
  | k + 1 => b (fl5 b k)
theorem fl5_s {A1 A2 A3 A4 A5 O : Type} (b : (A1 → A2 → A3 → A4 → A5 → Option O) → A1 → A2 → A3 → A4 → A5 → Option O) (k : Nat) : fl5 b (k + 1) = b (fl5 b k) := rfl
def fl6 {A1 A2 A3 A4 A5 A6 O : Type} (b : (A1 → A2 → A3 → A4 → A5 → A6 → Option O) → A1 → A2 → A3 → A4 → A5 → A6 → Option O) : Nat → A1 → A2 → A3 → A4 → A5 → A6 → Option O
  | 0 => fun _ _ _ _ _ _ => none
  | k + 1 => b (fl6 b k)
theorem fl6_s {A1 A2 A3 A4 A5 A6 O : Type} (b : (A1 → A2 → A3 → A4 → A5 → A6 → Option O) → A1 → A2 → A3 → A4 → A5 → A6 → Option O) (k : Nat) : fl6 b (k + 1) = b (fl6 b k) := rfl
def fl7 {A1 A2 A3 A4 A5 A6 A7 O : Type} (b : (A1 → A2 → A3 → A4 → A5 → A6 → A7 → Option O) → A1 → A2 → A3 → A4 → A5 → A6 → A7 → Option O) : Nat → A1 → A2 → A3 → A4 → A5 → A6 → A7 → Option O
  | 0 => fun _ _ _ _ _ _ _ => none
  | k + 1 => b (fl7 b k)
theorem fl7_s {A1 A2 A3 A4 A5 A6 A7 O : Type} (b : (A1 → A2 → A3 → A4 → A5 → A6 → A7 → Option O) → A1 → A2 → A3 → A4 → A5 → A6 → A7 → Option O) (k : Nat) : fl7 b (k + 1) = b (fl7 b k) := rfl
def fl8 {A1 A2 A3 A4 A5 A6 A7 A8 O : Type} (b : (A1 → A2 → A3 → A4 → A5 → A6 → A7 → A8 → Option O) → A1 → A2 → A3 → A4 → A5 → A6 → A7 → A8 → Option O) : Nat → A1 → A2 → A3 → A4 → A5 → A6 → A7 → A8 → Option O
  | 0 => fun _ _ _ _ _ _ _ _ => none
  | k + 1 => b (fl8 b k)
theorem fl8_s {A1 A2 A3 A4 A5 A6 A7 A8 O : Type} (b : (A1 → A2 → A3 → A4 → A5 → A6 → A7 → A8 → Option O) → A1 → A2 → A3 → A4 → A5 → A6 → A7 → A8 → Option O) (k : Nat) : fl8 b (k + 1) = b (fl8 b k) := rfl
def fl9 {A1 A2 A3 A4 A5 A6 A7 A8 A9 O : Type} (b : (A1 → A2 → A3 → A4 → A5 → A6 → A7 → A8 → A9 → Option O) → A1 → A2 → A3 → A4 → A5 → A6 → A7 → A8 → A9 → Option O) : Nat → A1 → A2 → A3 → A4 → A5 → A6 → A7 → A8 → A9 → Option O
  | 0 => fun _ _ _ _ _ _ _ _ _ => none
  | k + 1 => b (fl9 b k)
theorem fl9_s {A1 A2 A3 A4 A5 A6 A7 A8 A9 O : Type} (b : (A1 → A2 → A3 → A4 → A5 → A6 → A7 → A8 → A9 → Option O) → A1 → A2 → A3 → A4 → A5 → A6 → A7 → A8 → A9 → Option O) (k : Nat) : fl9 b (k + 1) = b (fl9 b k) := rfl
def fl10 {A1 A2 A3 A4 A5 A6 A7 A8 A9 A10 O : Type} (b : (A1 → A2 → A3 → A4 → A5 → A6 → A7 → A8 → A9 → A10 → Option O) → A1 → A2 → A3 → A4 → A5 → A6 → A7 → A8 → A9 → A10 → Option O) : Nat → A1 → A2 → A3 → A4 → A5 → A6 → A7 → A8 → A9 → A10 → Option O
  | 0 => fun _ _ _ _ _ _ _ _ _ _ => none
  | k + 1 => b (fl10 b k)
theorem fl10_s {A1 A2 A3 A4 A5 A6 A7 A8 A9 A10 O : Type} (b : (A1 → A2 → A3 → A4 → A5 → A6 → A7 → A8 → A9 → A10 → Option O) → A1 → A2 → A3 → A4 → A5 → A6 → A7 → A8 → A9 → A10 → Option O) (k : Nat) : fl10 b (k + 1) = b (fl10 b k) := rfl
def fl11 {A1 A2 A3 A4 A5 A6 A7 A8 A9 A10 A11 O : Type} (b : (A1 → A2 → A3 → A4 → A5 → A6 → A7 → A8 → A9 → A10 → A11 → Option O) → A1 → A2 → A3 → A4 → A5 → A6 → A7 → A8 → A9 → A10 → A11 → Option O) : Nat → A1 → A2 → A3 → A4 → A5 → A6 → A7 → A8 → A9 → A10 → A11 → Option O
  | 0 => fun _ _ _ _ _ _ _ _ _ _ _ => none
  | k + 1 => b (fl11 b k)
theorem fl11_s {A1 A2 A3 A4 A5 A6 A7 A8 A9 A10 A11 O : Type} (b : (A1 → A2 → A3 → A4 → A5 → A6 → A7 → A8 → A9 → A10 → A11 → Option O) → A1 → A2 → A3 → A4 → A5 → A6 → A7 → A8 → A9 → A10 → A11 → Option O) (k : Nat) : fl11 b (k + 1) = b (fl11 b k) := rfl
def fl12 {A1 A2 A3 A4 A5 A6 A7 A8 A9 A10 A11 A12 O : Type} (b : (A1 → A2 → A3 → A4 → A5 → A6 → A7 → A8 → A9 → A10 → A11 → A12 → Option O) → A1 → A2 → A3 → A4 → A5 → A6 → A7 → A8 → A9 → A10 → A11 → A12 → Option O) : Nat → A1 → A2 → A3 → A4 → A5 → A6 → A7 → A8 → A9 → A10 → A11 → A12 → Option O
  | 0 => fun _ _ _ _ _ _ _ _ _ _ _ _ => none
  | k + 1 => b (fl12 b k)
theorem fl12_s {A1 A2 A3 A4 A5 A6 A7 A8 A9 A10 A11 A12 O : Type} (b : (A1 → A2 → A3 → A4 → A5 → A6 → A7 → A8 → A9 → A10 → A11 → A12 → Option O) → A1 → A2 → A3 → A4 → A5 → A6 → A7 → A8 → A9 → A10 → A11 → A12 → Option O) (k : Nat) : fl12 b (k + 1) = b (fl12 b k) := rfl
def fl13 {A1 A2 A3 A4 A5 A6 A7 A8 A9 A10 A11 A12 A13 O : Type} (b : (A1 → A2 → A3 → A4 → A5 → A6 → A7 → A8 → A9 → A10 → A11 → A12 → A13 → Option O) → A1 → A2 → A3 → A4 → A5 → A6 → A7 → A8 → A9 → A10 → A11 → A12 → A13 → Option O) : Nat → A1 → A2 → A3 → A4 → A5 → A6 → A7 → A8 → A9 → A10 → A11 → A12 → A13 → Option O
  | 0 => fun _ _ _ _ _ _ _ _ _ _ _ _ _ => none
  | k + 1 => b (fl13 b k)
theorem fl13_s {A1 A2 A3 A4 A5 A6 A7 A8 A9 A10 A11 A12 A13 O : Type} (b : (A1 → A2 → A3 → A4 → A5 → A6 → A7 → A8 → A9 → A10 → A11 → A12 → A13 → Option O) → A1 → A2 → A3 → A4 → A5 → A6 → A7 → A8 → A9 → A10 → A11 → A12 → A13 → Option O) (k : Nat) : fl13 b (k + 1) = b (fl13 b k) := rfl
def fl14 {A1 A2 A3 A4 A5 A6 A7 A8 A9 A10 A11 A12 A13 A14 O : Type} (b : (A1 → A2 → A3 → A4 → A5 → A6 → A7 → A8 → A9 → A10 → A11 → A12 → A13 → A14 → Option O) → A1 → A2 → A3 → A4 → A5 → A6 → A7 → A8 → A9 → A10 → A11 → A12 → A13 → A14 → Option O) : Nat → A1 → A2 → A3 → A4 → A5 → A6 → A7 → A8 → A9 → A10 → A11 → A12 → A13 → A14 → Option O
  | 0 => fun _ _ _ _ _ _ _ _ _ _ _ _ _ _ => none
  | k + 1 => b (fl14 b k)
theorem fl14_s {A1 A2 A3 A4 A5 A6 A7 A8 A9 A10 A11 A12 A13 A14 O : Type} (b : (A1 → A2 → A3 → A4 → A5 → A6 → A7 → A8 → A9 → A10 → A11 → A12 → A13 → A14 → Option O) → A1 → A2 → A3 → A4 → A5 → A6 → A7 → A8 → A9 → A10 → A11 → A12 → A13 → A14 → Option O) (k : Nat) : fl14 b (k + 1) = b (fl14 b k) := rfl
def fl15 {A1 A2 A3 A4 A5 A6 A7 A8 A9 A10 A11 A12 A13 A14 A15 O : Type} (b : (A1 → A2 → A3 → A4 → A5 → A6 → A7 → A8 → A9 → A10 → A11 → A12 → A13 → A14 → A15 → Option O) → A1 → A2 → A3 → A4 → A5 → A6 → A7 → A8 → A9 → A10 → A11 → A12 → A13 → A14 → A15 → Option O) : Nat → A1 → A2 → A3 → A4 → A5 → A6 → A7 → A8 → A9 → A10 → A11 → A12 → A13 → A14 → A15 → Option O
  | 0 => fun _ _ _ _ _ _ _ _ _ _ _ _ _ _ _ => none
  | k + 1 => b (fl15 b k)
theorem fl15_s {A1 A2 A3 A4 A5 A6 A7 A8 A9 A10 A11 A12 A13 A14 A15 O : Type} (b : (A1 → A2 → A3 → A4 → A5 → A6 → A7 → A8 → A9 → A10 → A11 → A12 → A13 → A14 → A15 → Option O) → A1 → A2 → A3 → A4 → A5 → A6 → A7 → A8 → A9 → A10 → A11 → A12 → A13 → A14 → A15 → Option O) (k : Nat) : fl15 b (k + 1) = b (fl15 b k) := rfl
def fl16 {A1 A2 A3 A4 A5 A6 A7 A8 A9 A10 A11 A12 A13 A14 A15 A16 O : Type} (b : (A1 → A2 → A3 → A4 → A5 → A6 → A7 → A8 → A9 → A10 → A11 → A12 → A13 → A14 → A15 → A16 → Option O) → A1 → A2 → A3 → A4 → A5 → A6 → A7 → A8 → A9 → A10 → A11 → A12 → A13 → A14 → A15 → A16 → Option O) : Nat → A1 → A2 → A3 → A4 → A5 → A6 → A7 → A8 → A9 → A10 → A11 → A12 → A13 → A14 → A15 → A16 → Option O
  | 0 => fun _ _ _ _ _ _ _ _ _ _ _ _ _ _ _ _ => none
  | k + 1 => b (fl16 b k)
theorem fl16_s {A1 A2 A3 A4 A5 A6 A7 A8 A9 A10 A11 A12 A13 A14 A15 A16 O : Type} (b : (A1 → A2 → A3 → A4 → A5 → A6 → A7 → A8 → A9 → A10 → A11 → A12 → A13 → A14 → A15 → A16 → Option O) → A1 → A2 → A3 → A4 → A5 → A6 → A7 → A8 → A9 → A10 → A11 → A12 → A13 → A14 → A15 → A16 → Option O) (k : Nat) : fl16 b (k + 1) = b (fl16 b k) := rfl
def fl17 {A1 A2 A3 A4 A5 A6 A7 A8 A9 A10 A11 A12 A13 A14 A15 A16 A17 O : Type} (b : (A1 → A2 → A3 → A4 → A5 → A6 → A7 → A8 → A9 → A10 → A11 → A12 → A13 → A14 → A15 → A16 → A17 → Option O) → A1 → A2 → A3 → A4 → A5 → A6 → A7 → A8 → A9 → A10 → A11 → A12 → A13 → A14 → A15 → A16 → A17 → Option O) : Nat → A1 → A2 → A3 → A4 → A5 → A6 → A7 → A8 → A9 → A10 → A11 → A12 → A13 → A14 → A15 → A16 → A17 → Option O
  | 0 => fun _ _ _ _ _ _ _ _ _ _ _ _ _ _ _ _ _ => none
  | k + 1 => b (fl17 b k)
theorem fl17_s {A1 A2 A3 A4 A5 A6 A7 A8 A9 A10 A11 A12 A13 A14 A15 A16 A17 O : Type} (b : (A1 → A2 → A3 → A4 → A5 → A6 → A7 → A8 → A9 → A10 → A11 → A12 → A13 → A14 → A15 → A16 → A17 → Option O) → A1 → A2 → A3 → A4 → A5 → A6 → A7 → A8 → A9 → A10 → A11 → A12 → A13 → A14 → A15 → A16 → A17 → Option O) (k : Nat) : fl17 b (k + 1) = b (fl17 b k) := rfl
def fl18 {A1 A2 A3 A4 A5 A6 A7 A8 A9 A10 A11 A12 A13 A14 A15 A16 A17 A18 O : Type} (b : (A1 → A2 → A3 → A4 → A5 → A6 → A7 → A8 → A9 → A10 → A11 → A12 → A13 → A14 → A15 → A16 → A17 → A18 → Option O) → A1 → A2 → A3 → A4 → A5 → A6 → A7 → A8 → A9 → A10 → A11 → A12 → A13 → A14 → A15 → A16 → A17 → A18 → Option O) : Nat → A1 → A2 → A3 → A4 → A5 → A6 → A7 → A8 → A9 → A10 → A11 → A12 → A13 → A14 → A15 → A16 → A17 → A18 → Option O
  | 0 => fun _ _ _ _ _ _ _ _ _ _ _ _ _ _ _ _ _ _ => none
  | k + 1 => b (fl18 b k)
theorem fl18_s {A1 A2 A3 A4 A5 A6 A7 A8 A9 A10 A11 A12 A13 A14 A15 A16 A17 A18 O : Type} (b : (A1 → A2 → A3 → A4 → A5 → A6 → A7 → A8 → A9 → A10 → A11 → A12 → A13 → A14 → A15 → A16 → A17 → A18 → Option O) → A1 → A2 → A3 → A4 → A5 → A6 → A7 → A8 → A9 → A10 → A11 → A12 → A13 → A14 → A15 → A16 → A17 → A18 → Option O) (k : Nat) : fl18 b (k + 1) = b (fl18 b k) := rfl
def fl19 {A1 A2 A3 A4 A5 A6 A7 A8 A9 A10 A11 A12 A13 A14 A15 A16 A17 A18 A19 O : Type} (b : (A1 → A2 → A3 → A4 → A5 → A6 → A7 → A8 → A9 → A10 → A11 → A12 → A13 → A14 → A15 → A16 → A17 → A18 → A19 → Option O) → A1 → A2 → A3 → A4 → A5 → A6 → A7 → A8 → A9 → A10 → A11 → A12 → A13 → A14 → A15 → A16 → A17 → A18 → A19 → Option O) : Nat → A1 → A2 → A3 → A4 → A5 → A6 → A7 → A8 → A9 → A10 → A11 → A12 → A13 → A14 → A15 → A16 → A17 → A18 → A19 → Option O
  | 0 => fun _ _ _ _ _ _ _ _ _ _ _ _ _ _ _ _ _ _ _ => none
  | k + 1 => b (fl19 b k)
theorem fl19_s {A1 A2 A3 A4 A5 A6 A7 A8 A9 A10 A11 A12 A13 A14 A15 A16 A17 A18 A19 O : Type} (b : (A1 → A2 → A3 → A4 → A5 → A6 → A7 → A8 → A9 → A10 → A11 → A12 → A13 → A14 → A15 → A16 → A17 → A18 → A19 → Option O) → A1 → A2 → A3 → A4 → A5 → A6 → A7 → A8 → A9 → A10 → A11 → A12 → A13 → A14 → A15 → A16 → A17 → A18 → A19 → Option O) (k : Nat) : fl19 b (k + 1) = b (fl19 b k) := rfl
def fl20 {A1 A2 A3 A4 A5 A6 A7 A8 A9 A10 A11 A12 A13 A14 A15 A16 A17 A18 A19 A20 O : Type} (b : (A1 → A2 → A3 → A4 → A5 → A6 → A7 → A8 → A9 → A10 → A11 → A12 → A13 → A14 → A15 → A16 → A17 → A18 → A19 → A20 → Option O) → A1 → A2 → A3 → A4 → A5 → A6 → A7 → A8 → A9 → A10 → A11 → A12 → A13 → A14 → A15 → A16 → A17 → A18 → A19 → A20 → Option O) : Nat → A1 → A2 → A3 → A4 → A5 → A6 → A7 → A8 → A9 → A10 → A11 → A12 → A13 → A14 → A15 → A16 → A17 → A18 → A19 → A20 → Option O
  | 0 => fun _ _ _ _ _ _ _ _ _ _ _ _ _ _ _ _ _ _ _ _ => none
  | k + 1 => b (fl20 b k)
theorem fl20_s {A1 A2 A3 A4 A5 A6 A7 A8 A9 A10 A11 A12 A13 A14 A15 A16 A17 A18 A19 A20 O : Type} (b : (A1 → A2 → A3 → A4 → A5 → A6 → A7 → A8 → A9 → A10 → A11 → A12 → A13 → A14 → A15 → A16 → A17 → A18 → A19 → A20 → Option O) → A1 → A2 → A3 → A4 → A5 → A6 → A7 → A8 → A9 → A10 → A11 → A12 → A13 → A14 → A15 → A16 → A17 → A18 → A19 → A20 → Option O) (k : Nat) : fl20 b (k + 1) = b (fl20 b k) := rfl
/-! ===== the world behind a call ===== -/
def vpick (k : Nat) : List Nat → va_W → Option (Nat × va_E)
  | i :: is, y :: ys => cond (Nat.beq i k) (some y) (vpick k is ys)
  | _, _ => none
def vmapi (is : List Nat) (w1 : va_W) : Nat → va_W → va_W
  | _, [] => []
  | k, x :: xs => (vpick k is w1).getD x :: vmapi is w1 (k + 1) xs
def vput (ws : va_W) (is : List Nat) (w1 : va_W) : va_W := vmapi is w1 0 ws
theorem vmapi_get (is : List Nat) (w1 : va_W) : ∀ (ws : va_W) (n k : Nat), (vmapi is w1 n ws)[k]? = (ws[k]?).map (fun x => (vpick (n + k) is w1).getD x)
  | [], n, k => by simp [vmapi]
  | x :: xs, n, 0 => by simp [vmapi]
  | x :: xs, n, k + 1 => by
    have := vmapi_get is w1 xs (n + 1) k
    simp only [vmapi, List.getElem?_cons_succ, this]
    rw [show n + 1 + k = n + (k + 1) by omega]
theorem vpick_some {k : Nat} : ∀ {is : List Nat} {w1 : va_W} {y : Nat × va_E}, vpick k is w1 = some y → ∃ j : Nat, is[j]? = some k ∧ w1[j]? = some y
  | [], w1, y, h => by cases w1 <;> simp [vpick] at h
  | i :: is, [], y, h => by simp [vpick] at h
  | i :: is, z :: ys, y, h => by
    by_cases hik : i = k
    · subst hik
      have : Nat.beq i i = true := Nat.beq_refl i
      simp only [vpick, this, cond_true, Option.some.injEq] at h
      subst h
      exact ⟨0, rfl, rfl⟩
    · have hb : Nat.beq i k = false := by
        cases hb : Nat.beq i k with
        | true => exact absurd (Nat.eq_of_beq_eq_true hb) hik
        | false => rfl
      simp only [vpick, hb, cond_false] at h
      obtain ⟨j, h1, h2⟩ := vpick_some h
      exact ⟨j + 1, by simpa using h1, by simpa using h2⟩
theorem vpick_none {k : Nat} : ∀ {is : List Nat} {w1 : va_W}, vpick k is w1 = none → is.length = w1.length → k ∉ is
  | [], w1, _, _ => by simp
  | i :: is, [], _, hl => by simp at hl
  | i :: is, z :: ys, h, hl => by
    by_cases hik : i = k
    · subst hik
      have : Nat.beq i i = true := Nat.beq_refl i
      simp [vpick, this] at h
    · have hb : Nat.beq i k = false := by
        cases hb : Nat.beq i k with
        | true => exact absurd (Nat.eq_of_beq_eq_true hb) hik
        | false => rfl
      simp only [vpick, hb, cond_false] at h
      have := vpick_none h (by simpa using hl)
      intro hm
      rcases List.mem_cons.mp hm with e | e
      · exact hik e.symm
      · exact this e
theorem hn_at' {is : List Nat} {ws w : va_W} (hs : is.map (fun i => ws[i]?) = w.map some) {k i : Nat} (hi : is[k]? = some i) : ∃ q, w[k]? = some q ∧ ws[i]? = some q := by
  have h1 : (is.map (fun i => ws[i]?))[k]? = some (ws[i]?) := by rw [List.getElem?_map, hi]; rfl
  rw [hs, List.getElem?_map] at h1
  cases hw : w[k]? with
  | none => rw [hw] at h1; cases h1
  | some q => rw [hw] at h1; exact ⟨q, rfl, (Option.some.inj h1).symm⟩
theorem hn_after {A : Nat → Prop} {D : va_G} {cl : List vw_C} {ws wc w1 : va_W} {H H1 : Heap} (hP : va_P D cl ws H) (hD : va_D A ws) (isC : List Nat) (hC : isC.map (fun i => ws[i]?) = wc.map some) (hadr : w1.map Prod.fst = wc.map Prod.fst)
    (hk : ∀ q : Nat, q < H.size → ¬ va_A wc H.size q → H1[q]? = H[q]?) (hP1 : va_P D cl w1 H1) : va_P D cl (vput ws isC w1) H1 ∧ va_D A (vput ws isC w1) := by
  have hlen : isC.length = w1.length := by
    have h1 := congrArg List.length hC
    have h2 := congrArg List.length hadr
    simp at h1 h2
    omega
  have key : ∀ (k : Nat) (q : Nat × va_E), (vput ws isC w1)[k]? = some q → ∃ x, ws[k]? = some x ∧ x.1 = q.1 ∧ va_at D cl q H1 := by
    intro k q hq
    unfold vput at hq
    rw [vmapi_get] at hq
    cases hx : ws[k]? with
    | none => rw [hx] at hq; cases hq
    | some x =>
      rw [hx] at hq
      simp only [Option.map_some, Nat.zero_add, Option.some.injEq] at hq
      refine ⟨x, rfl, ?_⟩
      cases hv : vpick k isC w1 with
      | some y =>
        rw [hv] at hq
        simp only [Option.getD_some] at hq
        subst hq
        obtain ⟨j, h1, h2⟩ := vpick_some hv
        obtain ⟨z, h3, h4⟩ := hn_at' hC h1
        rw [hx] at h4
        have e1 : x = z := Option.some.inj h4
        have e2 : (w1.map Prod.fst)[j]? = some y.1 := by rw [List.getElem?_map, h2]; rfl
        rw [hadr, List.getElem?_map, h3] at e2
        refine ⟨?_, hP1 j y h2⟩
        rw [e1]; exact Option.some.inj e2
      | none =>
        rw [hv] at hq
        simp only [Option.getD_none] at hq
        subst hq
        have hni := vpick_none hv hlen
        refine ⟨rfl, (hP k x hx).kept (hk x.1 (hP k x hx).lt ?_)⟩
        intro hA
        rcases hA with ⟨j, e, h⟩ | h
        · have hjl : j < isC.length := by
            have h1 := congrArg List.length hC
            simp at h1
            rw [h1]
            exact (List.getElem?_eq_some_iff.mp h).1
          have hj : isC[j]? = some isC[j] := List.getElem?_eq_getElem hjl
          obtain ⟨z, h3, h4⟩ := hn_at' hC hj
          rw [h] at h3
          have e1 : (x.1, e) = z := Option.some.inj h3
          have := hD.1 k _ x z hx h4 (by rw [← e1])
          exact hni (this ▸ List.getElem_mem hjl)
        · have := (hP k x hx).lt
          omega
  refine ⟨fun k q hq => (key k q hq).choose_spec.2.2, ⟨fun i j p q hi hj hpq => ?_, fun k q hq => ?_⟩⟩
  · obtain ⟨x, h1, h2, -⟩ := key i p hi
    obtain ⟨y, h3, h4, -⟩ := key j q hj
    exact hD.1 i j x y h1 h3 (h2.trans (hpq.trans h4.symm))
  · obtain ⟨x, h1, h2, -⟩ := key k q hq
    rw [← h2]
    exact hD.2 k x h1
/-! ===== what every method of both sides takes as given, and gives back ===== -/
def tb_good (j : Nat) : Int32 := ([45, 46, 48, 57, 97, 122, 224, 246, 248, 255, 768, 769, 776, 776, 807, 807, 945, 961, 963, 969, 1488, 1514, 1575, 1576, 1614, 1614, 1632, 1641, 1776, 1785, 2325, 2361, 2381, 2381, 19968, 40959] : List Int32).getD j 0
def tb_pc (j : Nat) : Int32 := ([224, 232, 236, 242, 249, 225, 233, 237, 243, 250, 253, 228, 235, 239, 246, 252, 255, 231] : List Int32).getD j 0
def tb_pl (j : Nat) : Int32 := ([97, 101, 105, 111, 117, 97, 101, 105, 111, 117, 121, 97, 101, 105, 111, 117, 121, 99] : List Int32).getD j 0
def tb_pm (j : Nat) : Int32 := ([768, 768, 768, 768, 768, 769, 769, 769, 769, 769, 769, 776, 776, 776, 776, 776, 776, 807] : List Int32).getD j 0
def tb_tag (j : Nat) : Int32 := ([120, 110, 45, 45] : List Int32).getD j 0
/-- the static tables and the one link between nest mates -/
def hn_ST (tt : Nat → Nat) (A : Nat → Prop) (U : State) (H : Heap) : Prop :=
  va_Z "HostNames$Codes" "GOOD_RANGES" "[I" (.ref (tt 0)) A U H ∧
  va_T .int (tt 0) 36 (fun j => .int (tb_good j)) A U H ∧
  va_Z "HostNames$Composer" "PAIR_CODES" "[I" (.ref (tt 1)) A U H ∧
  va_T .int (tt 1) 18 (fun j => .int (tb_pc j)) A U H ∧
  va_Z "HostNames$Composer" "PAIR_LETTERS" "[I" (.ref (tt 2)) A U H ∧
  va_T .int (tt 2) 18 (fun j => .int (tb_pl j)) A U H ∧
  va_Z "HostNames$Composer" "PAIR_MARKS" "[I" (.ref (tt 3)) A U H ∧
  va_T .int (tt 3) 18 (fun j => .int (tb_pm j)) A U H ∧
  va_Z "HostNames$Checker" "TAG" "[I" (.ref (tt 4)) A U H ∧
  va_T .int (tt 4) 4 (fun j => .int (tb_tag j)) A U H ∧
  va_Nw (.methodLinkNest R_Checker 45 y_Host_bit "HostNames") U
theorem hn_ST.go {tt : Nat → Nat} {A A' : Nat → Prop} {s U : State} {H : Heap} {locs : List Loc} (h : hn_ST tt A s s.heap) (hS : va_S A s.heap H locs) (hA : ∀ q, A' q → A q) (hW : s.WarmedH U.vm) (hU : U.heap = H) : hn_ST tt A' U U.heap := by
  subst hU
  obtain ⟨h0, h1, h2, h3, h4, h5, h6, h7, h8, h9, h10⟩ := h
  exact ⟨((h0.kept hS.2.1).narrow hA).moved hW.alike, ((h1.kept hS.2.1).narrow hA).moved hW.alike, ((h2.kept hS.2.1).narrow hA).moved hW.alike, ((h3.kept hS.2.1).narrow hA).moved hW.alike, ((h4.kept hS.2.1).narrow hA).moved hW.alike, ((h5.kept hS.2.1).narrow hA).moved hW.alike, ((h6.kept hS.2.1).narrow hA).moved hW.alike, ((h7.kept hS.2.1).narrow hA).moved hW.alike, ((h8.kept hS.2.1).narrow hA).moved hW.alike, ((h9.kept hS.2.1).narrow hA).moved hW.alike, va_Nw.warmM hW h10⟩
theorem hn_ST.call {tt : Nat → Nat} {A : Nat → Prop} {U : State} {g : JFrame} {mk : MethodId} {a : Array Value} (h : hn_ST tt A U U.heap) : hn_ST tt A (U.calling g mk a) (U.calling g mk a).heap := by
  have e : U.vm.Alike (U.calling g mk a).vm := Vm.Alike.refl U.vm
  obtain ⟨h0, h1, h2, h3, h4, h5, h6, h7, h8, h9, h10⟩ := h
  exact ⟨h0.moved e, h1.moved e, h2.moved e, h3.moved e, h4.moved e, h5.moved e, h6.moved e, h7.moved e, h8.moved e, h9.moved e, va_Nw.same rfl rfl h10⟩
theorem st_z0 {tt : Nat → Nat} {A : Nat → Prop} {U : State} {H : Heap} (h : hn_ST tt A U H) : va_Z "HostNames$Codes" "GOOD_RANGES" "[I" (.ref (tt 0)) A U H := h.1
theorem st_t0 {tt : Nat → Nat} {A : Nat → Prop} {U : State} {H : Heap} (h : hn_ST tt A U H) : va_T .int (tt 0) 36 (fun j => .int (tb_good j)) A U H := h.2.1
theorem st_z1 {tt : Nat → Nat} {A : Nat → Prop} {U : State} {H : Heap} (h : hn_ST tt A U H) : va_Z "HostNames$Composer" "PAIR_CODES" "[I" (.ref (tt 1)) A U H := h.2.2.1
theorem st_t1 {tt : Nat → Nat} {A : Nat → Prop} {U : State} {H : Heap} (h : hn_ST tt A U H) : va_T .int (tt 1) 18 (fun j => .int (tb_pc j)) A U H := h.2.2.2.1
theorem st_z2 {tt : Nat → Nat} {A : Nat → Prop} {U : State} {H : Heap} (h : hn_ST tt A U H) : va_Z "HostNames$Composer" "PAIR_LETTERS" "[I" (.ref (tt 2)) A U H := h.2.2.2.2.1
theorem st_t2 {tt : Nat → Nat} {A : Nat → Prop} {U : State} {H : Heap} (h : hn_ST tt A U H) : va_T .int (tt 2) 18 (fun j => .int (tb_pl j)) A U H := h.2.2.2.2.2.1
theorem st_z3 {tt : Nat → Nat} {A : Nat → Prop} {U : State} {H : Heap} (h : hn_ST tt A U H) : va_Z "HostNames$Composer" "PAIR_MARKS" "[I" (.ref (tt 3)) A U H := h.2.2.2.2.2.2.1
theorem st_t3 {tt : Nat → Nat} {A : Nat → Prop} {U : State} {H : Heap} (h : hn_ST tt A U H) : va_T .int (tt 3) 18 (fun j => .int (tb_pm j)) A U H := h.2.2.2.2.2.2.2.1
theorem st_z4 {tt : Nat → Nat} {A : Nat → Prop} {U : State} {H : Heap} (h : hn_ST tt A U H) : va_Z "HostNames$Checker" "TAG" "[I" (.ref (tt 4)) A U H := h.2.2.2.2.2.2.2.2.1
theorem st_t4 {tt : Nat → Nat} {A : Nat → Prop} {U : State} {H : Heap} (h : hn_ST tt A U H) : va_T .int (tt 4) 4 (fun j => .int (tb_tag j)) A U H := h.2.2.2.2.2.2.2.2.2.1
theorem st_n {tt : Nat → Nat} {A : Nat → Prop} {U : State} {H : Heap} (h : hn_ST tt A U H) : va_Nw (.methodLinkNest R_Checker 45 y_Host_bit "HostNames") U := h.2.2.2.2.2.2.2.2.2.2
abbrev TY (cI cZ : ClassId) : List (ClassId × FieldType) := [(cI, .int), (cZ, .boolean)]
/-- the world in the midst of a method -/
def hn_E (D : va_G) (ty : List (ClassId × FieldType)) (tt : Nat → Nat) (A : Nat → Prop) (s : State) (H : Heap) (locs : List Loc) (ws : va_W) : Prop :=
  va_K D classes ty s ∧ va_P D classes ws H ∧ va_D A ws ∧ va_S A s.heap H locs ∧ (∀ q, s.heap.size ≤ q → A q) ∧ hn_ST tt A s s.heap
def hn_Pc (D : va_G) (ty : List (ClassId × FieldType)) (tt : Nat → Nat) (av : List Value) (sz : Nat) (ws : va_W) : Array Value → State → Prop :=
  va_Pc av (fun U => U.heap.size = sz ∧ va_P D classes ws U.heap ∧ va_K D classes ty U ∧ va_D (fun _ => True) ws ∧ hn_ST tt (va_A ws sz) U U.heap)
def hn_Qi (D : va_G) (ws : va_W) (sz : Nat) (w1 : va_W) (r0 : Int32) : Array Value → State → Outcome → State → Prop := va_Qi (fun r (_ : Unit) => r = r0) (fun _ t => va_P D classes w1 t.heap) (va_A ws sz)
def hn_Qz (D : va_G) (ws : va_W) (sz : Nat) (w1 : va_W) (r0 : Int32) : Array Value → State → Outcome → State → Prop := va_Qi (fun r (_ : Unit) => r = r0 ∧ narrow .boolean (.int r0) = .int r0) (fun _ t => va_P D classes w1 t.heap) (va_A ws sz)
def hn_Ql (D : va_G) (ws : va_W) (sz : Nat) (w1 : va_W) (r0 : Int64) : Array Value → State → Outcome → State → Prop := va_Ql (fun r (_ : Unit) => r = r0) (fun _ t => va_P D classes w1 t.heap) (va_A ws sz)
def hn_Qv (D : va_G) (ws : va_W) (sz : Nat) (w1 : va_W) : Array Value → State → Outcome → State → Prop := va_Qv (fun (_ : Unit) => True) (fun _ t => va_P D classes w1 t.heap) (va_A ws sz)
def hn_Qr (D : va_G) (ws : va_W) (sz : Nat) (w1 : va_W) (q0 : Nat) : Array Value → State → Outcome → State → Prop := va_Qr (fun (_ : Unit) => True) (fun _ a t => a = q0 ∧ va_P D classes w1 t.heap) (va_A ws sz)
def hn_w (y : MethodName) (cc : ByteArray) (n : Nat) (r : Option FieldType) : List Cond := Cond.code y cc n r :: hn_T
/-! ===== a method's start ===== -/
section HNM
variable {l : Launch} {y : MethodName} {cc : ByteArray} {maxL : Nat} {rm : Room} {D : va_G} {ty : List (ClassId × FieldType)} {tt : Nat → Nat} {av : List Value} {sz : Nat} {ws w1 : va_W} {own : String}
theorem hn_ofWv (hy : plainName y.cls = true) (hown : y.cls = own) (hlen : (lg_sl av).length ≤ maxL)
    (body : ∀ (p : Program) (e : Env) (s : State) (m : MethodId) (args : Array Value) (below : List Frame) (meth : Method) (c : Code) (A : Nat → Prop) (H : Heap) (locs : List Loc) (ls : Array Slot) (Q : State → Prop), CallFix p m c cc maxL s args hn_T own → hn_E D ty tt A s H locs ws → lv_has ls maxL (lv_args 0 av) →
      (∀ (H : Heap) (locs : List Loc) (ls : Array Slot) (pc : Nat), decode cc pc = .ok (.return_, 1) → hn_E D ty tt A s H locs w1 → W p l e rm s m args below meth c H locs 0 0 Q (F0 m pc ls [])) →
      W p l e rm s m args below meth c H locs 0 0 Q (F0 m 0 ls [])) : Met l y (hn_w y cc maxL none) rm (hn_Pc D ty tt av sz ws) (hn_Qv D ws sz w1) 0 0 (va_A ws sz) := by
  refine Met.ofW (cc := cc) (maxL := maxL) (ret := none) hy rfl ?_
  intro p e s m args below meth c s₁ B hml hv
  obtain ⟨rfl, hsz, hP, hK, hD0, hST⟩ := hv
  subst hsz
  have hts := atoms_spec (ws := hn_w y cc maxL none) B.pre
  rw [lg_entry_eq]
  exact body p e s m _ below meth c _ _ _ _ _ ⟨B.exec, B.bytes, hml, hown ▸ findClass_of_methodNamed B.named, fun w hw => hts w (List.mem_cons_of_mem _ hw)⟩ ⟨hK, hP, hD0.self, va_S.rf, fun q h => Or.inr h, hST⟩ (lv_entry av (n := maxL) hlen)
    (fun H locs ls pc hd hE => W.vret B.exec B.bytes B.returns (fun t ht hW => ⟨⟨(), rfl, trivial, (show va_P D classes w1 t.heap by rw [ht]; exact hE.2.1)⟩, hE.2.2.2.1.F ht⟩) hE.2.2.2.1.2.2 hd B.notSynchronized)
theorem hn_ofWi {r0 : Int32} (hy : plainName y.cls = true) (hown : y.cls = own) (hlen : (lg_sl av).length ≤ maxL)
    (body : ∀ (p : Program) (e : Env) (s : State) (m : MethodId) (args : Array Value) (below : List Frame) (meth : Method) (c : Code) (A : Nat → Prop) (H : Heap) (locs : List Loc) (ls : Array Slot) (Q : State → Prop), CallFix p m c cc maxL s args hn_T own → hn_E D ty tt A s H locs ws → lv_has ls maxL (lv_args 0 av) →
      (∀ (H : Heap) (locs : List Loc) (ls : Array Slot) (pc : Nat), decode cc pc = .ok (.ireturn, 1) → hn_E D ty tt A s H locs w1 → W p l e rm s m args below meth c H locs 0 0 Q (F0 m pc ls [.int r0])) →
      W p l e rm s m args below meth c H locs 0 0 Q (F0 m 0 ls [])) : Met l y (hn_w y cc maxL (some .int)) rm (hn_Pc D ty tt av sz ws) (hn_Qi D ws sz w1 r0) 0 0 (va_A ws sz) := by
  refine Met.ofW (cc := cc) (maxL := maxL) (ret := some .int) hy rfl ?_
  intro p e s m args below meth c s₁ B hml hv
  obtain ⟨rfl, hsz, hP, hK, hD0, hST⟩ := hv
  subst hsz
  have hts := atoms_spec (ws := hn_w y cc maxL (some .int)) B.pre
  rw [lg_entry_eq]
  exact body p e s m _ below meth c _ _ _ _ _ ⟨B.exec, B.bytes, hml, hown ▸ findClass_of_methodNamed B.named, fun w hw => hts w (List.mem_cons_of_mem _ hw)⟩ ⟨hK, hP, hD0.self, va_S.rf, fun q h => Or.inr h, hST⟩ (lv_entry av (n := maxL) hlen)
    (fun H locs ls pc hd hE => W.iret B.exec B.bytes B.returns (fun t ht hW => ⟨⟨r0, (), rfl, rfl, (show va_P D classes w1 t.heap by rw [ht]; exact hE.2.1)⟩, hE.2.2.2.1.F ht⟩) hE.2.2.2.1.2.2 hd B.notSynchronized)
theorem hn_ofWz {r0 : Int32} (hy : plainName y.cls = true) (hown : y.cls = own) (hlen : (lg_sl av).length ≤ maxL)
    (body : ∀ (p : Program) (e : Env) (s : State) (m : MethodId) (args : Array Value) (below : List Frame) (meth : Method) (c : Code) (A : Nat → Prop) (H : Heap) (locs : List Loc) (ls : Array Slot) (Q : State → Prop), CallFix p m c cc maxL s args hn_T own → hn_E D ty tt A s H locs ws → lv_has ls maxL (lv_args 0 av) →
      (∀ (H : Heap) (locs : List Loc) (ls : Array Slot) (pc : Nat), decode cc pc = .ok (.ireturn, 1) → narrow .boolean (.int r0) = .int r0 → hn_E D ty tt A s H locs w1 → W p l e rm s m args below meth c H locs 0 0 Q (F0 m pc ls [.int r0])) →
      W p l e rm s m args below meth c H locs 0 0 Q (F0 m 0 ls [])) : Met l y (hn_w y cc maxL (some .boolean)) rm (hn_Pc D ty tt av sz ws) (hn_Qz D ws sz w1 r0) 0 0 (va_A ws sz) := by
  refine Met.ofW (cc := cc) (maxL := maxL) (ret := some .boolean) hy rfl ?_
  intro p e s m args below meth c s₁ B hml hv
  obtain ⟨rfl, hsz, hP, hK, hD0, hST⟩ := hv
  subst hsz
  have hts := atoms_spec (ws := hn_w y cc maxL (some .boolean)) B.pre
  rw [lg_entry_eq]
  exact body p e s m _ below meth c _ _ _ _ _ ⟨B.exec, B.bytes, hml, hown ▸ findClass_of_methodNamed B.named, fun w hw => hts w (List.mem_cons_of_mem _ hw)⟩ ⟨hK, hP, hD0.self, va_S.rf, fun q h => Or.inr h, hST⟩ (lv_entry av (n := maxL) hlen)
    (fun H locs ls pc hd hz hE => W.zret B.exec B.bytes B.returns hz (fun t ht hW => ⟨⟨r0, (), rfl, ⟨rfl, hz⟩, (show va_P D classes w1 t.heap by rw [ht]; exact hE.2.1)⟩, hE.2.2.2.1.F ht⟩) hE.2.2.2.1.2.2 hd B.notSynchronized)
theorem hn_ofWl {r0 : Int64} (hy : plainName y.cls = true) (hown : y.cls = own) (hlen : (lg_sl av).length ≤ maxL)
    (body : ∀ (p : Program) (e : Env) (s : State) (m : MethodId) (args : Array Value) (below : List Frame) (meth : Method) (c : Code) (A : Nat → Prop) (H : Heap) (locs : List Loc) (ls : Array Slot) (Q : State → Prop), CallFix p m c cc maxL s args hn_T own → hn_E D ty tt A s H locs ws → lv_has ls maxL (lv_args 0 av) →
      (∀ (H : Heap) (locs : List Loc) (ls : Array Slot) (pc : Nat), decode cc pc = .ok (.lreturn, 1) → hn_E D ty tt A s H locs w1 → W p l e rm s m args below meth c H locs 0 0 Q (F0 m pc ls [.long r0])) →
      W p l e rm s m args below meth c H locs 0 0 Q (F0 m 0 ls [])) : Met l y (hn_w y cc maxL (some .long)) rm (hn_Pc D ty tt av sz ws) (hn_Ql D ws sz w1 r0) 0 0 (va_A ws sz) := by
  refine Met.ofW (cc := cc) (maxL := maxL) (ret := some .long) hy rfl ?_
  intro p e s m args below meth c s₁ B hml hv
  obtain ⟨rfl, hsz, hP, hK, hD0, hST⟩ := hv
  subst hsz
  have hts := atoms_spec (ws := hn_w y cc maxL (some .long)) B.pre
  rw [lg_entry_eq]
  exact body p e s m _ below meth c _ _ _ _ _ ⟨B.exec, B.bytes, hml, hown ▸ findClass_of_methodNamed B.named, fun w hw => hts w (List.mem_cons_of_mem _ hw)⟩ ⟨hK, hP, hD0.self, va_S.rf, fun q h => Or.inr h, hST⟩ (lv_entry av (n := maxL) hlen)
    (fun H locs ls pc hd hE => W.lret B.exec B.bytes B.returns (fun t ht hW => ⟨⟨r0, (), rfl, rfl, (show va_P D classes w1 t.heap by rw [ht]; exact hE.2.1)⟩, hE.2.2.2.1.F ht⟩) hE.2.2.2.1.2.2 hd B.notSynchronized)
theorem hn_ofWr {q0 : Nat} {C : String} (hy : plainName y.cls = true) (hown : y.cls = own) (hlen : (lg_sl av).length ≤ maxL)
    (body : ∀ (p : Program) (e : Env) (s : State) (m : MethodId) (args : Array Value) (below : List Frame) (meth : Method) (c : Code) (A : Nat → Prop) (H : Heap) (locs : List Loc) (ls : Array Slot) (Q : State → Prop), CallFix p m c cc maxL s args hn_T own → hn_E D ty tt A s H locs ws → lv_has ls maxL (lv_args 0 av) →
      (∀ (H : Heap) (locs : List Loc) (ls : Array Slot) (pc : Nat), decode cc pc = .ok (.areturn, 1) → hn_E D ty tt A s H locs w1 → W p l e rm s m args below meth c H locs 0 0 Q (F0 m pc ls [.ref q0])) →
      W p l e rm s m args below meth c H locs 0 0 Q (F0 m 0 ls [])) : Met l y (hn_w y cc maxL (some (.object C))) rm (hn_Pc D ty tt av sz ws) (hn_Qr D ws sz w1 q0) 0 0 (va_A ws sz) := by
  refine Met.ofW (cc := cc) (maxL := maxL) (ret := some (.object C)) hy rfl ?_
  intro p e s m args below meth c s₁ B hml hv
  obtain ⟨rfl, hsz, hP, hK, hD0, hST⟩ := hv
  subst hsz
  have hts := atoms_spec (ws := hn_w y cc maxL (some (.object C))) B.pre
  rw [lg_entry_eq]
  exact body p e s m _ below meth c _ _ _ _ _ ⟨B.exec, B.bytes, hml, hown ▸ findClass_of_methodNamed B.named, fun w hw => hts w (List.mem_cons_of_mem _ hw)⟩ ⟨hK, hP, hD0.self, va_S.rf, fun q h => Or.inr h, hST⟩ (lv_entry av (n := maxL) hlen)
    (fun H locs ls pc hd hE => W.aret B.exec B.bytes B.returns (Or.inl ⟨_, rfl⟩) (Or.inr ⟨_, rfl⟩) (fun t ht hW => ⟨⟨(), q0, rfl, trivial, rfl, (show va_P D classes w1 t.heap by rw [ht]; exact hE.2.1)⟩, hE.2.2.2.1.F ht⟩) hE.2.2.2.1.2.2 hd B.notSynchronized)
end HNM
/-! ===== rows over hn_E ===== -/
section HNR
variable {p : Program} {l : Launch} {e : Env} {R : Room} {s : State} {m : MethodId} {args : Array Value} {below : List Frame} {meth : Method} {c : Code} {H : Heap} {locs : List Loc} {cells slots : Nat} {Q : State → Prop}
variable {cc : ByteArray} {pc nL : Nat} {ls : Array Slot} {rest : List Value} {D : va_G} {A : Nat → Prop} {a : Nat} {ty : List (ClassId × FieldType)} {tt : Nat → Nat} {ws : va_W} {own : String}
theorem hn_get (S : CallFix p m c cc nL s args hn_T own) (hE : hn_E D ty tt A s H locs ws) {C : String} {T : u_T} {N ci index : Nat} (hin : ∀ w ∈ u_ws C T N, w ∈ hn_T) (q0 : Nat) {fs : List Value} (he : ws[q0]? = some (a, .inr (ci, fs))) (hc : classes[ci]? = some (C, T, N)) (k : Nat) (hk : k < N) (hlink : Cond.fieldLink own index (T k).1 (T k).2.1 (T k).2.2.1 ∈ hn_T) {v : Value} (hv : fs[k]? = some v) (hdg : decode cc pc = .ok (.getfield index, 3))
    (kk : W p l e R s m args below meth c H locs cells slots Q (F0 m (pc + 3) ls (v :: rest))) : W p l e R s m args below meth c H locs cells slots Q (F0 m pc ls (.ref a :: rest)) :=
  va_get S.1 S.2.1 S.2.2.2.2 hin S.2.2.2.1 hE.1 hE.2.1 q0 he hc k hk (S.2.2.2.2 _ hlink) (fun _ h => h) hv hdg kk
theorem hn_put (S : CallFix p m c cc nL s args hn_T own) (hE : hn_E D ty tt A s H locs ws) {C : String} {T : u_T} {N ci index : Nat} (hin : ∀ w ∈ u_ws C T N, w ∈ hn_T) {ty0 : Nat → FieldType} (hty : ∀ k, k < N → parseFieldDescriptor (T k).2.2.1 = some (ty0 k)) (hnm : ∀ a, a < N → ∀ b, b < N → a ≠ b → (T a).2.1 ≠ (T b).2.1) (q0 : Nat) {fs : List Value} (he : ws[q0]? = some (a, .inr (ci, fs))) (hc : classes[ci]? = some (C, T, N)) (k : Nat) (hk : k < N) (hlink : Cond.fieldLink own index (T k).1 (T k).2.1 (T k).2.2.1 ∈ hn_T) (hfin : (T k).2.2.2 = false) {tv : FieldType} {v : Value} (hd : parseFieldDescriptor (T k).2.2.1 = some tv) (hn : narrow tv v = v) (hfit : fits tv v = true) (hl : k < fs.length)
    (hdg : decode cc pc = .ok (.putfield index, 3)) (kk : ∀ (H1 : Heap) (locs1 : List Loc), hn_E D ty tt A s H1 locs1 (ws.set q0 (a, .inr (ci, fs.set k v))) → W p l e R s m args below meth c H1 locs1 cells slots Q (F0 m (pc + 3) ls rest)) : W p l e R s m args below meth c H locs cells slots Q (F0 m pc ls (v :: .ref a :: rest)) :=
  va_put S.1 S.2.1 S.2.2.2.2 hin ty0 hty hnm S.2.2.2.1 hE.1 hE.2.1 hE.2.2.1 hE.2.2.2.1 q0 he hc k hk (S.2.2.2.2 _ hlink) (fun _ h => h) hfin hd hn hfit hl hdg (fun H1 locs1 hP hD hS => kk H1 locs1 ⟨hE.1, hP, hD, hS, hE.2.2.2.2.1, hE.2.2.2.2.2⟩)
theorem hn_iald (S : CallFix p m c cc nL s args hn_T own) (hE : hn_E D ty tt A s H locs ws) (q0 t0 : Nat) {cA : ClassId} {n : Nat} {f : Nat → Int32} (ha : ws[q0]? = some (a, .inl (cA, n, .inl f))) (ht : ty[t0]? = some (cA, .int)) {i : Int32} (hin : vp_in i n) (hdg : decode cc pc = .ok (.iaload, 1))
    (kk : W p l e R s m args below meth c H locs cells slots Q (F0 m (pc + 1) ls (.int (f i.toNatClampNeg) :: rest))) : W p l e R s m args below meth c H locs cells slots Q (F0 m pc ls (.int i :: .ref a :: rest)) :=
  va_iald S.1 S.2.1 hE.1 hE.2.1 q0 t0 ha ht hin hdg kk
theorem hn_zald (S : CallFix p m c cc nL s args hn_T own) (hE : hn_E D ty tt A s H locs ws) (q0 t0 : Nat) {cA : ClassId} {n : Nat} {f : Nat → Int32} (ha : ws[q0]? = some (a, .inl (cA, n, .inl f))) (ht : ty[t0]? = some (cA, .boolean)) {i : Int32} (hin : vp_in i n) (hdg : decode cc pc = .ok (.baload, 1))
    (kk : W p l e R s m args below meth c H locs cells slots Q (F0 m (pc + 1) ls (.int (f i.toNatClampNeg) :: rest))) : W p l e R s m args below meth c H locs cells slots Q (F0 m pc ls (.int i :: .ref a :: rest)) :=
  va_zald S.1 S.2.1 hE.1 hE.2.1 q0 t0 ha ht hin hdg kk
theorem hn_iast (S : CallFix p m c cc nL s args hn_T own) (hE : hn_E D ty tt A s H locs ws) (q0 t0 : Nat) {cA : ClassId} {n : Nat} {f : Nat → Int32} (ha : ws[q0]? = some (a, .inl (cA, n, .inl f))) (ht : ty[t0]? = some (cA, .int)) {i x : Int32} (hin : vp_in i n) (hdg : decode cc pc = .ok (.iastore, 1))
    (kk : ∀ (H1 : Heap) (locs1 : List Loc), hn_E D ty tt A s H1 locs1 (ws.set q0 (a, .inl (cA, n, .inl (upd f i.toNatClampNeg x)))) → W p l e R s m args below meth c H1 locs1 cells slots Q (F0 m (pc + 1) ls rest)) : W p l e R s m args below meth c H locs cells slots Q (F0 m pc ls (.int x :: .int i :: .ref a :: rest)) :=
  va_iast S.1 S.2.1 hE.1 hE.2.1 hE.2.2.1 hE.2.2.2.1 q0 t0 ha ht hin hdg (fun H1 locs1 hP hD hS => kk H1 locs1 ⟨hE.1, hP, hD, hS, hE.2.2.2.2.1, hE.2.2.2.2.2⟩)
theorem hn_zast (S : CallFix p m c cc nL s args hn_T own) (hE : hn_E D ty tt A s H locs ws) (q0 t0 : Nat) {cA : ClassId} {n : Nat} {f : Nat → Int32} (ha : ws[q0]? = some (a, .inl (cA, n, .inl f))) (ht : ty[t0]? = some (cA, .boolean)) {i x : Int32} (hin : vp_in i n) (hdg : decode cc pc = .ok (.bastore, 1))
    (kk : ∀ (H1 : Heap) (locs1 : List Loc), hn_E D ty tt A s H1 locs1 (ws.set q0 (a, .inl (cA, n, .inl (upd f i.toNatClampNeg (vp_nar .boolean x))))) → W p l e R s m args below meth c H1 locs1 cells slots Q (F0 m (pc + 1) ls rest)) : W p l e R s m args below meth c H locs cells slots Q (F0 m pc ls (.int x :: .int i :: .ref a :: rest)) :=
  va_zast S.1 S.2.1 hE.1 hE.2.1 hE.2.2.1 hE.2.2.2.1 q0 t0 ha ht hin hdg (fun H1 locs1 hP hD hS => kk H1 locs1 ⟨hE.1, hP, hD, hS, hE.2.2.2.2.1, hE.2.2.2.2.2⟩)
theorem hn_alen (S : CallFix p m c cc nL s args hn_T own) (hE : hn_E D ty tt A s H locs ws) (q0 t0 : Nat) {cA : ClassId} {x : vp_A} (ha : ws[q0]? = some (a, .inl (cA, x))) {t : FieldType} (ht : ty[t0]? = some (cA, t)) (hdg : decode cc pc = .ok (.arraylength, 1))
    (kk : W p l e R s m args below meth c H locs cells slots Q (F0 m (pc + 1) ls (.int (nI x.1) :: rest))) : W p l e R s m args below meth c H locs cells slots Q (F0 m pc ls (.ref a :: rest)) :=
  va_alen S.1 S.2.1 hE.1 hE.2.1 q0 t0 ha ht rfl hdg kk
theorem hn_gets (S : CallFix p m c cc nL s args hn_T own) (hE : hn_E D ty tt A s H locs ws) {C n d : String} {v : Value} {index : Nat} (hZ : hn_ST tt A s s.heap → va_Z C n d v A s s.heap) (hlink : Cond.fieldLink own index C n d ∈ hn_T) (hdg : decode cc pc = .ok (.getstatic index, 3))
    (kk : W p l e R s m args below meth c H locs cells slots Q (F0 m (pc + 3) ls (v :: rest))) : W p l e R s m args below meth c H locs cells slots Q (F0 m pc ls rest) :=
  va_gets S.1 S.2.1 (hZ hE.2.2.2.2.2) hE.2.2.2.1 S.2.2.2.1 (S.2.2.2.2 _ hlink) (fun _ h => h) hdg kk
theorem hn_tlen (S : CallFix p m c cc nL s args hn_T own) (hE : hn_E D ty tt A s H locs ws) {t N : Nat} {f : Nat → Value} (hT : hn_ST tt A s s.heap → va_T .int t N f A s s.heap) {v : Int32} (hv : Int32.ofNat N = v) (hdg : decode cc pc = .ok (.arraylength, 1))
    (kk : W p l e R s m args below meth c H locs cells slots Q (F0 m (pc + 1) ls (.int v :: rest))) : W p l e R s m args below meth c H locs cells slots Q (F0 m pc ls (.ref t :: rest)) :=
  va_tlen S.1 S.2.1 (hT hE.2.2.2.2.2) hE.2.2.2.1 hv hdg kk
theorem hn_ti (S : CallFix p m c cc nL s args hn_T own) (hE : hn_E D ty tt A s H locs ws) {t N : Nat} {f : Nat → Value} (hT : hn_ST tt A s s.heap → va_T .int t N f A s s.heap) {i : Int32} (hin : vp_in i N) {v : Value} (hv : f i.toNatClampNeg = v) (hdg : decode cc pc = .ok (.iaload, 1))
    (kk : W p l e R s m args below meth c H locs cells slots Q (F0 m (pc + 1) ls (v :: rest))) : W p l e R s m args below meth c H locs cells slots Q (F0 m pc ls (.int i :: .ref t :: rest)) :=
  va_ti S.1 S.2.1 (hT hE.2.2.2.2.2) hE.2.2.2.1 hin hv hdg kk
/-! ===== calls ===== -/
/-- what the tables say of a callee: its code, its class ready, how many it takes -/
def hn_CF (y : MethodName) (bytes : ByteArray) (maxL : Nat) (ret : Option FieldType) (n : Nat) : Prop :=
  Cond.code y bytes maxL ret ∈ hn_T ∧ Cond.initialized y.cls ∈ hn_T ∧ y.cls ≠ "java/lang/invoke/MethodHandle" ∧ y.cls ≠ "java/lang/invoke/VarHandle" ∧ (parseMethodDescriptor y.desc).map (fun d => d.parameters.length) = some n
theorem hn_good {y : MethodName} {bytes : ByteArray} {maxL : Nat} {ret : Option FieldType} (h : Cond.code y bytes maxL ret ∈ hn_T) : GoodIn hn_T (hn_w y bytes maxL ret) := by
  intro w hw
  have hm : w ∈ hn_T := by
    rcases List.mem_cons.mp hw with e | e
    · rw [e]; exact h
    · exact e
  exact ⟨hm, good_of_word (List.mem_filter.mp hm).2⟩
variable {y : MethodName} {bytes : ByteArray} {maxL n index : Nat} {ret : Option FieldType} {rm : Room} {wc w1 : va_W} {As st : List Value} {b : Nat}
theorem hn_sub (hP : va_P D classes ws H) (isC : List Nat) (hC : isC.map (fun i => ws[i]?) = wc.map some) : va_P D classes wc H := by
  intro k q hk
  have hlt : k < isC.length := by
    have h1 := congrArg List.length hC
    simp at h1
    rw [h1]
    exact (List.getElem?_eq_some_iff.mp hk).1
  obtain ⟨z, h1, h2⟩ := hn_at' hC (List.getElem?_eq_getElem hlt)
  rw [hk] at h1
  cases h1
  exact hP _ _ h2
theorem hn_pre (hE : hn_E D ty tt A s H locs ws) (isC : List Nat) (hC : isC.map (fun i => ws[i]?) = wc.map some) (hnd : va_nd isC = true) : PreS s H (hn_Pc D ty tt As H.size wc) As := by
  obtain ⟨hK, hP, hD, hS, hA, hT⟩ := hE
  have hF := va_free (wc := wc) hD hS hA isC hC
  refine ⟨fun a U g mk q => ?_, fun U hU hW => ?_⟩
  · obtain ⟨q0, q1, qP, qK, qD, qS⟩ := q
    exact ⟨q0, q1, qP, va_K.moved (u := U) (U := U.calling g mk a) (Vm.Alike.refl U.vm) qK, qD, qS.call⟩
  · refine ⟨rfl, by rw [hU], ?_, va_K.moved hW.alike hK, ?_, hT.go hS hF hW hU⟩
    · rw [hU]; exact hn_sub hP isC hC
    · exact (hD.sub isC hnd hC).weaken (fun _ _ _ _ => trivial)
theorem hn_callB (hT : ∀ w ∈ hn_T, w.before args s = true) (cf : hn_CF y bytes maxL ret n) (hl : Cond.methodLink own index y ∈ hn_T) (hrc : rm.cells = 0 ∧ rm.slots = 0) (hR : rm.frames + 1 ≤ R.frames ∧ 8 + (maxL + 11) + rm.locals ≤ R.locals) : CallB R s args own index y bytes maxL ret (hn_w y bytes maxL ret) rm 0 0 n :=
  callB_of n hT (hn_good cf.1) rfl hrc.1 hrc.2 (hT _ cf.2.1) (hT _ hl) ⟨cf.2.2.1, cf.2.2.2.1, cf.2.2.2.2⟩ hR
/-- behind a call: the world put together again -/
theorem hn_back (hE : hn_E D ty tt A s H locs ws) (isC : List Nat) (hC : isC.map (fun i => ws[i]?) = wc.map some) (hadr : w1.map Prod.fst = wc.map Prod.fst) {H1 : Heap} {locs1 : List Loc} {t : State} (ht : t.heap = H1) (hP1 : va_P D classes w1 t.heap)
    (hk : ∀ q : Nat, q < H.size → ¬ va_A wc H.size q → H1[q]? = H[q]?) (hS : va_S A s.heap H1 locs1) : hn_E D ty tt A s H1 locs1 (vput ws isC w1) := by
  rw [ht] at hP1
  obtain ⟨h1, h2⟩ := hn_after hE.2.1 hE.2.2.1 isC hC hadr hk hP1
  exact ⟨hE.1, h1, h2, hS, hE.2.2.2.2.1, hE.2.2.2.2.2⟩
/-- a call of an instance method: the run of it -/
theorem hn_runV {Qc : Array Value → State → Outcome → State → Prop} (S : CallFix p m c cc nL s args hn_T own) (hE : hn_E D ty tt A s H locs ws) (hM : Met l y (hn_w y bytes maxL ret) rm (hn_Pc D ty tt (.ref b :: As) H.size wc) Qc 0 0 (va_A wc H.size)) (cf : hn_CF y bytes maxL ret n) (hl : Cond.methodLink own index y ∈ hn_T) (hi : Cond.instanceMethod y ∈ hn_T) (hs : Cond.selects y.cls y y ∈ hn_T) (hrc : rm.cells = 0 ∧ rm.slots = 0) (hR : rm.frames + 1 ≤ R.frames ∧ 8 + (maxL + 11) + rm.locals ≤ R.locals)
    (isC : List Nat) (hC : isC.map (fun i => ws[i]?) = wc.map some) (hnd : va_nd isC = true) {ci N : Nat} {T : u_T} {fs : List Value} (hc : classes[ci]? = some (y.cls, T, N)) (he : wc[0]? = some (b, .inr (ci, fs))) (hn : As.length = n) (hst : st = As.reverse ++ .ref b :: rest) (hsize : ls.size = nL) (hW : 2 * (F0 m pc ls st).monitorRoom + (rest.map fun v => v.category).sum ≤ 8) (hdg : decode cc pc = .ok (.invokevirtual index, 3)) (hf : cells ≤ R.cells ∧ slots ≤ R.slots) :
    va_Run p l e R s m args below meth c H locs cells slots 0 0 (F0 m pc ls st) rest (Qc (Value.ref b :: As).toArray) (va_A wc H.size) := by
  have hpre := hn_pre (As := .ref b :: As) hE isC hC hnd
  have hPc : va_P D classes wc H := hn_sub hE.2.1 isC hC
  exact va_runV S hM ⟨hn_callB S.2.2.2.2 cf hl hrc hR, S.2.2.2.2 _ hi, S.2.2.2.2 _ hs⟩ ⟨hpre.1, va_recv hE.1 hPc hc he, hpre.2⟩ rfl hn hsize hst hW hdg hf
/-- a call of a static method: the run of it -/
theorem hn_runS {Qc : Array Value → State → Outcome → State → Prop} (S : CallFix p m c cc nL s args hn_T own) (hE : hn_E D ty tt A s H locs ws) (hM : Met l y (hn_w y bytes maxL ret) rm (hn_Pc D ty tt As H.size wc) Qc 0 0 (va_A wc H.size)) (cf : hn_CF y bytes maxL ret n) (hl : Cond.methodLink own index y ∈ hn_T) (hi : Cond.static y ∈ hn_T) (hrc : rm.cells = 0 ∧ rm.slots = 0) (hR : rm.frames + 1 ≤ R.frames ∧ 8 + (maxL + 11) + rm.locals ≤ R.locals)
    (isC : List Nat) (hC : isC.map (fun i => ws[i]?) = wc.map some) (hnd : va_nd isC = true) (hn : As.length = n) (hst : st = As.reverse ++ rest) (hsize : ls.size = nL) (hW : 2 * (F0 m pc ls st).monitorRoom + (rest.map fun v => v.category).sum ≤ 8) (hdg : decode cc pc = .ok (.invokestatic index, 3)) (hf : cells ≤ R.cells ∧ slots ≤ R.slots) :
    va_Run p l e R s m args below meth c H locs cells slots 0 0 (F0 m pc ls st) rest (Qc As.toArray) (va_A wc H.size) :=
  va_runS S hM ⟨hn_callB S.2.2.2.2 cf hl hrc hR, S.2.2.2.2 _ hi⟩ (hn_pre hE isC hC hnd) rfl hn hsize hst hW hdg hf
/-- a call of a nest mate's private static method -/
theorem hn_runN {Qc : Array Value → State → Outcome → State → Prop} {host : String} (S : CallFix p m c cc nL s args hn_T own) (hE : hn_E D ty tt A s H locs ws) (hM : Met l y (hn_w y bytes maxL ret) rm (hn_Pc D ty tt As H.size wc) Qc 0 0 (va_A wc H.size)) (cf : hn_CF y bytes maxL ret n) (hl : hn_ST tt A s s.heap → va_Nw (.methodLinkNest own index y host) s) (hi : Cond.static y ∈ hn_T) (hrc : rm.cells = 0 ∧ rm.slots = 0) (hR : rm.frames + 1 ≤ R.frames ∧ 8 + (maxL + 11) + rm.locals ≤ R.locals)
    (isC : List Nat) (hC : isC.map (fun i => ws[i]?) = wc.map some) (hnd : va_nd isC = true) (hn : As.length = n) (hst : st = As.reverse ++ rest) (hsize : ls.size = nL) (hW : 2 * (F0 m pc ls st).monitorRoom + (rest.map fun v => v.category).sum ≤ 8) (hdg : decode cc pc = .ok (.invokestatic index, 3)) (hf : cells ≤ R.cells ∧ slots ≤ R.slots) :
    va_Run p l e R s m args below meth c H locs cells slots 0 0 (F0 m pc ls st) rest (Qc As.toArray) (va_A wc H.size) :=
  va_runSN S hM ⟨va_cnB n S.2.2.2.2 (hn_good cf.1) rfl hrc.1 hrc.2 (hl hE.2.2.2.2.2) (S.2.2.2.2 _ cf.2.1) ⟨cf.2.2.1, cf.2.2.2.1, cf.2.2.2.2⟩ hR, S.2.2.2.2 _ hi, trivial⟩ (hn_pre hE isC hC hnd) rfl hn hsize hst hW hdg hf
theorem hn_ci {r0 : Int32} {av : Array Value} (hE : hn_E D ty tt A s H locs ws) (hr : va_Run p l e R s m args below meth c H locs cells slots 0 0 (F0 m pc ls st) rest (hn_Qi D wc H.size w1 r0 av) (va_A wc H.size)) (isC : List Nat) (hC : isC.map (fun i => ws[i]?) = wc.map some) (hadr : w1.map Prod.fst = wc.map Prod.fst)
    (kk : ∀ (H1 : Heap) (locs1 : List Loc), hn_E D ty tt A s H1 locs1 (vput ws isC w1) → W p l e R s m args below meth c H1 locs1 cells slots Q (F0 m (pc + 3) ls (.int r0 :: rest))) : W p l e R s m args below meth c H locs cells slots Q (F0 m pc ls st) := by
  have hF := va_free (wc := wc) hE.2.2.1 hE.2.2.2.1 hE.2.2.2.2.1 isC hC
  refine va_calli hr hE.2.2.2.1 (fun q _ h => hF q h) hF (fun r u t H1 locs1 ht hvm hw hB hz hk hS => ?_)
  have hw : r = r0 := hw
  subst hw
  exact kk H1 locs1 (hn_back hE isC hC hadr ht hB hk hS)
theorem hn_cz {r0 : Int32} {av : Array Value} (hE : hn_E D ty tt A s H locs ws) (hr : va_Run p l e R s m args below meth c H locs cells slots 0 0 (F0 m pc ls st) rest (hn_Qz D wc H.size w1 r0 av) (va_A wc H.size)) (isC : List Nat) (hC : isC.map (fun i => ws[i]?) = wc.map some) (hadr : w1.map Prod.fst = wc.map Prod.fst)
    (kk : ∀ (H1 : Heap) (locs1 : List Loc), narrow .boolean (.int r0) = .int r0 → hn_E D ty tt A s H1 locs1 (vput ws isC w1) → W p l e R s m args below meth c H1 locs1 cells slots Q (F0 m (pc + 3) ls (.int r0 :: rest))) : W p l e R s m args below meth c H locs cells slots Q (F0 m pc ls st) := by
  have hF := va_free (wc := wc) hE.2.2.1 hE.2.2.2.1 hE.2.2.2.2.1 isC hC
  refine va_calli hr hE.2.2.2.1 (fun q _ h => hF q h) hF (fun r u t H1 locs1 ht hvm hw hB hz hk hS => ?_)
  obtain ⟨hw, hn⟩ : r = r0 ∧ narrow .boolean (.int r0) = .int r0 := hw
  subst hw
  exact kk H1 locs1 hn (hn_back hE isC hC hadr ht hB hk hS)
theorem hn_cl {r0 : Int64} {av : Array Value} (hE : hn_E D ty tt A s H locs ws) (hr : va_Run p l e R s m args below meth c H locs cells slots 0 0 (F0 m pc ls st) rest (hn_Ql D wc H.size w1 r0 av) (va_A wc H.size)) (isC : List Nat) (hC : isC.map (fun i => ws[i]?) = wc.map some) (hadr : w1.map Prod.fst = wc.map Prod.fst)
    (kk : ∀ (H1 : Heap) (locs1 : List Loc), hn_E D ty tt A s H1 locs1 (vput ws isC w1) → W p l e R s m args below meth c H1 locs1 cells slots Q (F0 m (pc + 3) ls (.long r0 :: rest))) : W p l e R s m args below meth c H locs cells slots Q (F0 m pc ls st) := by
  have hF := va_free (wc := wc) hE.2.2.1 hE.2.2.2.1 hE.2.2.2.2.1 isC hC
  refine va_calll hr hE.2.2.2.1 (fun q _ h => hF q h) hF (fun r u t H1 locs1 ht hvm hw hB hz hk hS => ?_)
  have hw : r = r0 := hw
  subst hw
  exact kk H1 locs1 (hn_back hE isC hC hadr ht hB hk hS)
theorem hn_cv {av : Array Value} (hE : hn_E D ty tt A s H locs ws) (hr : va_Run p l e R s m args below meth c H locs cells slots 0 0 (F0 m pc ls st) rest (hn_Qv D wc H.size w1 av) (va_A wc H.size)) (isC : List Nat) (hC : isC.map (fun i => ws[i]?) = wc.map some) (hadr : w1.map Prod.fst = wc.map Prod.fst)
    (kk : ∀ (H1 : Heap) (locs1 : List Loc), hn_E D ty tt A s H1 locs1 (vput ws isC w1) → W p l e R s m args below meth c H1 locs1 cells slots Q (F0 m (pc + 3) ls rest)) : W p l e R s m args below meth c H locs cells slots Q (F0 m pc ls st) := by
  have hF := va_free (wc := wc) hE.2.2.1 hE.2.2.2.1 hE.2.2.2.2.1 isC hC
  refine va_callv hr hE.2.2.2.1 (fun q _ h => hF q h) hF (fun u t H1 locs1 ht hvm hw hB hz hk hS => ?_)
  exact kk H1 locs1 (hn_back hE isC hC hadr ht hB hk hS)
theorem hn_cr {q0 : Nat} {av : Array Value} (hE : hn_E D ty tt A s H locs ws) (hr : va_Run p l e R s m args below meth c H locs cells slots 0 0 (F0 m pc ls st) rest (hn_Qr D wc H.size w1 q0 av) (va_A wc H.size)) (isC : List Nat) (hC : isC.map (fun i => ws[i]?) = wc.map some) (hadr : w1.map Prod.fst = wc.map Prod.fst)
    (kk : ∀ (H1 : Heap) (locs1 : List Loc), hn_E D ty tt A s H1 locs1 (vput ws isC w1) → W p l e R s m args below meth c H1 locs1 cells slots Q (F0 m (pc + 3) ls (.ref q0 :: rest))) : W p l e R s m args below meth c H locs cells slots Q (F0 m pc ls st) := by
  have hF := va_free (wc := wc) hE.2.2.1 hE.2.2.2.1 hE.2.2.2.2.1 isC hC
  refine va_callr hr hE.2.2.2.1 (fun q _ h => hF q h) hF (fun u ra t H1 locs1 ht hvm hw hB hz hk hS => ?_)
  obtain ⟨hw, hB⟩ : ra = q0 ∧ va_P D classes w1 t.heap := hB
  subst hw
  exact kk H1 locs1 (hn_back hE isC hC hadr ht hB hk hS)
end HNR
end
section
def P_Row_add (N_this_codes : Nat) (n_this_size : Int32) (f_this_codes : Nat → Int32) (a1 : Int32) : Option (Int32 × Int32 × (Nat → Int32)) :=
  if n_this_size < (nI N_this_codes) then (gi n_this_size N_this_codes (some ((1 : Int32), (n_this_size + (1 : Int32)), (upd f_this_codes (n_this_size).toNatClampNeg a1)))) else (some ((0 : Int32), n_this_size, f_this_codes))
def P_Row_size (n_this_size : Int32) : Option (Int32) :=
  some (n_this_size)
def P_Row_empty  : Option (Int32) :=
  some ((0 : Int32))
def P_Row_get (N_this_codes : Nat) (n_this_size : Int32) (f_this_codes : Nat → Int32) (a1 : Int32) : Option (Int32) :=
  if a1 < 0 then (some ((-1 : Int32))) else (if a1 < n_this_size then (gi a1 N_this_codes (some ((f_this_codes (a1).toNatClampNeg)))) else (some ((-1 : Int32))))
def P_Row_set (N_this_codes : Nat) (n_this_size : Int32) (f_this_codes : Nat → Int32) (a1 : Int32) (a2 : Int32) : Option ((Nat → Int32)) :=
  if a1 < 0 then (some (f_this_codes)) else (if n_this_size ≤ a1 then (some (f_this_codes)) else (gi a1 N_this_codes (some ((upd f_this_codes (a1).toNatClampNeg a2)))))
def P_Row_addPart_3 (N_this_codes : Nat) (N_a1_codes : Nat) (n_a1_size : Int32) (f_a1_codes : Nat → Int32) (a3 : Int32) (k3 : (Int32) → (Int32) → (Nat → Int32) → Option (Int32 × (Nat → Int32))) (v4 : Int32) (n_this_size : Int32) (f_this_codes : Nat → Int32) : Option (Int32 × (Nat → Int32)) :=
  if a3 ≤ v4 then (some (n_this_size, f_this_codes)) else (Option.bind (P_Row_get N_a1_codes n_a1_size f_a1_codes v4) (fun x13 => Option.bind (P_Row_add N_this_codes n_this_size f_this_codes x13) (fun x16 => k3 (v4 + (1 : Int32)) x16.2.1 x16.2.2)))
def P_Row_addPart (N_this_codes : Nat) (N_a1_codes : Nat) (n_this_size : Int32) (f_this_codes : Nat → Int32) (n_a1_size : Int32) (f_a1_codes : Nat → Int32) (a2 : Int32) (a3 : Int32) : Option (Int32 × (Nat → Int32)) :=
  fl3 (P_Row_addPart_3 N_this_codes N_a1_codes n_a1_size f_a1_codes a3) fu a2 n_this_size f_this_codes
def P_Row_insert_31 (N_this_codes : Nat) (a1 : Int32) (a2 : Int32) (n_this_size : Int32) (k31 : (Int32) → (Nat → Int32) → Option (Int32 × Int32 × (Nat → Int32))) (v3 : Int32) (f_this_codes : Nat → Int32) : Option (Int32 × Int32 × (Nat → Int32)) :=
  if v3 ≤ a1 then (gi a1 N_this_codes (some ((1 : Int32), (n_this_size + (1 : Int32)), (upd f_this_codes (a1).toNatClampNeg a2)))) else (gi (v3 - (1 : Int32)) N_this_codes (gi v3 N_this_codes (k31 (v3 + (-1 : Int32)) (upd f_this_codes (v3).toNatClampNeg (f_this_codes ((v3 - (1 : Int32))).toNatClampNeg)))))
def P_Row_insert (N_this_codes : Nat) (n_this_size : Int32) (f_this_codes : Nat → Int32) (a1 : Int32) (a2 : Int32) : Option (Int32 × Int32 × (Nat → Int32)) :=
  if (nI N_this_codes) ≤ n_this_size then (some ((0 : Int32), n_this_size, f_this_codes)) else (if a1 < 0 then (some ((0 : Int32), n_this_size, f_this_codes)) else (if a1 ≤ n_this_size then (fl2 (P_Row_insert_31 N_this_codes a1 a2 n_this_size) fu n_this_size f_this_codes) else (some ((0 : Int32), n_this_size, f_this_codes))))
def P_Row_hasAbove_2 (N_this_codes : Nat) (n_this_size : Int32) (f_this_codes : Nat → Int32) (a1 : Int32) (k2 : (Int32) → Option (Int32)) (v2 : Int32) : Option (Int32) :=
  if n_this_size ≤ v2 then (some ((0 : Int32))) else (gi v2 N_this_codes (if (f_this_codes (v2).toNatClampNeg) ≤ a1 then (k2 (v2 + (1 : Int32))) else (some ((1 : Int32)))))
def P_Row_hasAbove (N_this_codes : Nat) (n_this_size : Int32) (f_this_codes : Nat → Int32) (a1 : Int32) : Option (Int32) :=
  fl1 (P_Row_hasAbove_2 N_this_codes n_this_size f_this_codes a1) fu (0 : Int32)
def P_Row_isSameAs_15 (N_this_codes : Nat) (N_a1_codes : Nat) (n_this_size : Int32) (f_this_codes : Nat → Int32) (n_a1_size : Int32) (f_a1_codes : Nat → Int32) (k15 : (Int32) → Option (Int32)) (v2 : Int32) : Option (Int32) :=
  if n_this_size ≤ v2 then (some ((1 : Int32))) else (gi v2 N_this_codes (Option.bind (P_Row_get N_a1_codes n_a1_size f_a1_codes v2) (fun x31 => if (f_this_codes (v2).toNatClampNeg) = x31 then (k15 (v2 + (1 : Int32))) else (some ((0 : Int32))))))
def P_Row_isSameAs (N_this_codes : Nat) (N_a1_codes : Nat) (n_this_size : Int32) (f_this_codes : Nat → Int32) (n_a1_size : Int32) (f_a1_codes : Nat → Int32) : Option (Int32) :=
  Option.bind (P_Row_size n_a1_size) (fun x5 => if n_this_size = x5 then (fl1 (P_Row_isSameAs_15 N_this_codes N_a1_codes n_this_size f_this_codes n_a1_size f_a1_codes) fu (0 : Int32)) else (some ((0 : Int32))))
end
section
abbrev rm_Row_add : Room := { frames := 0, cells := 0, slots := 0, locals := 0 }
theorem cf_Row_add : hn_CF y_Row_add b_Row_add 2 (some .boolean) 1 := ⟨mw_141, mw_2, by decide, by decide, by decide +kernel⟩
set_option maxHeartbeats 4000000 in
set_option maxRecDepth 100000 in
theorem c_Row_add (l : Launch) (D : va_G) (cI cZ : ClassId) (tt : Nat → Nat) (h_this h_this_codes : Nat) (sz : Nat) (N_this_codes : Nat) (n_this_size : Int32) (f_this_codes : Nat → Int32) (a1 : Int32) (o : Int32 × Int32 × (Nat → Int32)) (h : P_Row_add N_this_codes n_this_size f_this_codes a1 = some o) : Met l y_Row_add (hn_w y_Row_add b_Row_add 2 (some .boolean)) rm_Row_add (hn_Pc D (TY cI cZ) tt [.ref h_this, .int a1] sz [(h_this, .inr (0, [.ref h_this_codes, .int n_this_size])), (h_this_codes, .inl (cI, N_this_codes, .inl f_this_codes))]) (hn_Qz D [(h_this, .inr (0, [.ref h_this_codes, .int n_this_size])), (h_this_codes, .inl (cI, N_this_codes, .inl f_this_codes))] sz [(h_this, .inr (0, [.ref h_this_codes, .int o.2.1])), (h_this_codes, .inl (cI, N_this_codes, .inl o.2.2))] o.1) 0 0 (va_A [(h_this, .inr (0, [.ref h_this_codes, .int n_this_size])), (h_this_codes, .inl (cI, N_this_codes, .inl f_this_codes))] sz) := by
  refine hn_ofWz (own := R_Row) (by decide) rfl (Nat.le_of_ble_eq_true rfl) ?_
  intro p e s m args below meth c A H locs ls Q S hE hl hret
  have hx := S.1
  have hb := S.2.1
  have hown := S.2.2.2.1
  have hl : lv_has ls 2 [(0, .ref h_this), (1, .int a1)] := hl
  unfold P_Row_add at h
  refine lv_aload_n hx hb d_Row_add_0 rfl (lv_at hl 0 rfl) ?_
  refine hn_get S hE kc_Row 0 rfl rfl 1 (by decide) mw_25 rfl d_Row_add_1 ?_
  refine lv_aload_n hx hb d_Row_add_4 rfl (lv_at hl 0 rfl) ?_
  refine hn_get S hE kc_Row 0 rfl rfl 0 (by decide) mw_24 rfl d_Row_add_5 ?_
  refine hn_alen S hE 1 0 rfl rfl d_Row_add_8 ?_
  refine lv_icmp_lt (tgt := 14) hx hb d_Row_add_9 (by decide) (fun hc => ?_) (fun hc => ?_)
  · have h := ite_t hc h
    refine lv_aload_n hx hb d_Row_add_14 rfl (lv_at hl 0 rfl) ?_
    refine hn_get S hE kc_Row 0 rfl rfl 0 (by decide) mw_24 rfl d_Row_add_15 ?_
    refine lv_aload_n hx hb d_Row_add_18 rfl (lv_at hl 0 rfl) ?_
    refine hn_get S hE kc_Row 0 rfl rfl 1 (by decide) mw_25 rfl d_Row_add_19 ?_
    refine lv_iload_n hx hb d_Row_add_22 rfl (lv_at hl 1 rfl) ?_
    obtain ⟨hi23, h⟩ := gi_s h
    refine hn_iast S hE 1 0 rfl rfl hi23 d_Row_add_23 (fun H locs hE => ?_)
    have hE : hn_E D (TY cI cZ) tt A s H locs [(h_this, .inr (0, [.ref h_this_codes, .int n_this_size])), (h_this_codes, .inl (cI, N_this_codes, .inl (upd f_this_codes (n_this_size).toNatClampNeg a1)))] := hE
    refine lv_aload_n hx hb d_Row_add_24 rfl (lv_at hl 0 rfl) ?_
    refine lv_dup hx hb d_Row_add_25 rfl ?_
    refine hn_get S hE kc_Row 0 rfl rfl 1 (by decide) mw_25 rfl d_Row_add_26 ?_
    refine lv_iconst (v := 1) hx hb d_Row_add_29 (by decide) ?_
    refine lv_iadd hx hb d_Row_add_30 ?_
    refine hn_put (tv := .int) S hE kc_Row t_Row_ok n_Row 0 rfl rfl 1 (by decide) mw_25 rfl (by decide +kernel) rfl rfl (Nat.le_of_ble_eq_true rfl) d_Row_add_31 (fun H locs hE => ?_)
    have hE : hn_E D (TY cI cZ) tt A s H locs [(h_this, .inr (0, [.ref h_this_codes, .int (n_this_size + (1 : Int32))])), (h_this_codes, .inl (cI, N_this_codes, .inl (upd f_this_codes (n_this_size).toNatClampNeg a1)))] := hE
    refine lv_iconst (v := 1) hx hb d_Row_add_34 (by decide) ?_
    obtain rfl := Option.some.inj h
    exact hret H locs ls 35 d_Row_add_35 narrow_b1 hE
  · have h := ite_f hc h
    refine lv_iconst (v := 0) hx hb d_Row_add_12 (by decide) ?_
    obtain rfl := Option.some.inj h
    exact hret H locs ls 13 d_Row_add_13 narrow_b0 hE
abbrev rm_Row_size : Room := { frames := 0, cells := 0, slots := 0, locals := 0 }
theorem cf_Row_size : hn_CF y_Row_size b_Row_size 1 (some .int) 0 := ⟨mw_149, mw_2, by decide, by decide, by decide +kernel⟩
set_option maxHeartbeats 4000000 in
set_option maxRecDepth 100000 in
theorem c_Row_size (l : Launch) (D : va_G) (cI cZ : ClassId) (tt : Nat → Nat) (h_this h_this_codes : Nat) (sz : Nat) (N_this_codes : Nat) (n_this_size : Int32) (f_this_codes : Nat → Int32) (o : Int32) (h : P_Row_size n_this_size = some o) : Met l y_Row_size (hn_w y_Row_size b_Row_size 1 (some .int)) rm_Row_size (hn_Pc D (TY cI cZ) tt [.ref h_this] sz [(h_this, .inr (0, [.ref h_this_codes, .int n_this_size])), (h_this_codes, .inl (cI, N_this_codes, .inl f_this_codes))]) (hn_Qi D [(h_this, .inr (0, [.ref h_this_codes, .int n_this_size])), (h_this_codes, .inl (cI, N_this_codes, .inl f_this_codes))] sz [(h_this, .inr (0, [.ref h_this_codes, .int n_this_size])), (h_this_codes, .inl (cI, N_this_codes, .inl f_this_codes))] o) 0 0 (va_A [(h_this, .inr (0, [.ref h_this_codes, .int n_this_size])), (h_this_codes, .inl (cI, N_this_codes, .inl f_this_codes))] sz) := by
  refine hn_ofWi (own := R_Row) (by decide) rfl (Nat.le_of_ble_eq_true rfl) ?_
  intro p e s m args below meth c A H locs ls Q S hE hl hret
  have hx := S.1
  have hb := S.2.1
  have hown := S.2.2.2.1
  have hl : lv_has ls 1 [(0, .ref h_this)] := hl
  unfold P_Row_size at h
  refine lv_aload_n hx hb d_Row_size_0 rfl (lv_at hl 0 rfl) ?_
  refine hn_get S hE kc_Row 0 rfl rfl 1 (by decide) mw_25 rfl d_Row_size_1 ?_
  obtain rfl := Option.some.inj h
  exact hret H locs ls 4 d_Row_size_4 hE
abbrev rm_Row_empty : Room := { frames := 0, cells := 0, slots := 0, locals := 0 }
theorem cf_Row_empty : hn_CF y_Row_empty b_Row_empty 1 none 0 := ⟨mw_157, mw_2, by decide, by decide, by decide +kernel⟩
set_option maxHeartbeats 4000000 in
set_option maxRecDepth 100000 in
theorem c_Row_empty (l : Launch) (D : va_G) (cI cZ : ClassId) (tt : Nat → Nat) (h_this h_this_codes : Nat) (sz : Nat) (N_this_codes : Nat) (n_this_size : Int32) (f_this_codes : Nat → Int32) (o : Int32) (h : P_Row_empty = some o) : Met l y_Row_empty (hn_w y_Row_empty b_Row_empty 1 none) rm_Row_empty (hn_Pc D (TY cI cZ) tt [.ref h_this] sz [(h_this, .inr (0, [.ref h_this_codes, .int n_this_size])), (h_this_codes, .inl (cI, N_this_codes, .inl f_this_codes))]) (hn_Qv D [(h_this, .inr (0, [.ref h_this_codes, .int n_this_size])), (h_this_codes, .inl (cI, N_this_codes, .inl f_this_codes))] sz [(h_this, .inr (0, [.ref h_this_codes, .int o])), (h_this_codes, .inl (cI, N_this_codes, .inl f_this_codes))]) 0 0 (va_A [(h_this, .inr (0, [.ref h_this_codes, .int n_this_size])), (h_this_codes, .inl (cI, N_this_codes, .inl f_this_codes))] sz) := by
  refine hn_ofWv (own := R_Row) (by decide) rfl (Nat.le_of_ble_eq_true rfl) ?_
  intro p e s m args below meth c A H locs ls Q S hE hl hret
  have hx := S.1
  have hb := S.2.1
  have hown := S.2.2.2.1
  have hl : lv_has ls 1 [(0, .ref h_this)] := hl
  unfold P_Row_empty at h
  refine lv_aload_n hx hb d_Row_empty_0 rfl (lv_at hl 0 rfl) ?_
  refine lv_iconst (v := 0) hx hb d_Row_empty_1 (by decide) ?_
  refine hn_put (tv := .int) S hE kc_Row t_Row_ok n_Row 0 rfl rfl 1 (by decide) mw_25 rfl (by decide +kernel) rfl rfl (Nat.le_of_ble_eq_true rfl) d_Row_empty_2 (fun H locs hE => ?_)
  have hE : hn_E D (TY cI cZ) tt A s H locs [(h_this, .inr (0, [.ref h_this_codes, .int (0 : Int32)])), (h_this_codes, .inl (cI, N_this_codes, .inl f_this_codes))] := hE
  obtain rfl := Option.some.inj h
  exact hret H locs ls 5 d_Row_empty_5 hE
abbrev rm_Row_get : Room := { frames := 0, cells := 0, slots := 0, locals := 0 }
theorem cf_Row_get : hn_CF y_Row_get b_Row_get 2 (some .int) 1 := ⟨mw_169, mw_2, by decide, by decide, by decide +kernel⟩
set_option maxHeartbeats 4000000 in
set_option maxRecDepth 100000 in
theorem c_Row_get (l : Launch) (D : va_G) (cI cZ : ClassId) (tt : Nat → Nat) (h_this h_this_codes : Nat) (sz : Nat) (N_this_codes : Nat) (n_this_size : Int32) (f_this_codes : Nat → Int32) (a1 : Int32) (o : Int32) (h : P_Row_get N_this_codes n_this_size f_this_codes a1 = some o) : Met l y_Row_get (hn_w y_Row_get b_Row_get 2 (some .int)) rm_Row_get (hn_Pc D (TY cI cZ) tt [.ref h_this, .int a1] sz [(h_this, .inr (0, [.ref h_this_codes, .int n_this_size])), (h_this_codes, .inl (cI, N_this_codes, .inl f_this_codes))]) (hn_Qi D [(h_this, .inr (0, [.ref h_this_codes, .int n_this_size])), (h_this_codes, .inl (cI, N_this_codes, .inl f_this_codes))] sz [(h_this, .inr (0, [.ref h_this_codes, .int n_this_size])), (h_this_codes, .inl (cI, N_this_codes, .inl f_this_codes))] o) 0 0 (va_A [(h_this, .inr (0, [.ref h_this_codes, .int n_this_size])), (h_this_codes, .inl (cI, N_this_codes, .inl f_this_codes))] sz) := by
  refine hn_ofWi (own := R_Row) (by decide) rfl (Nat.le_of_ble_eq_true rfl) ?_
  intro p e s m args below meth c A H locs ls Q S hE hl hret
  have hx := S.1
  have hb := S.2.1
  have hown := S.2.2.2.1
  have hl : lv_has ls 2 [(0, .ref h_this), (1, .int a1)] := hl
  unfold P_Row_get at h
  refine lv_iload_n hx hb d_Row_get_0 rfl (lv_at hl 1 rfl) ?_
  refine lv_if_lt (tgt := 12) hx hb d_Row_get_1 (by decide) (fun hc => ?_) (fun hc => ?_)
  · have h := ite_t hc h
    refine lv_iconst (v := -1) hx hb d_Row_get_12 (by decide) ?_
    refine lv_goto (tgt := 22) hx hb d_Row_get_13 (by decide) ?_
    obtain rfl := Option.some.inj h
    exact hret H locs ls 22 d_Row_get_22 hE
  · have h := ite_f hc h
    refine lv_iload_n hx hb d_Row_get_4 rfl (lv_at hl 1 rfl) ?_
    refine lv_aload_n hx hb d_Row_get_5 rfl (lv_at hl 0 rfl) ?_
    refine hn_get S hE kc_Row 0 rfl rfl 1 (by decide) mw_25 rfl d_Row_get_6 ?_
    refine lv_icmp_lt (tgt := 16) hx hb d_Row_get_9 (by decide) (fun hc => ?_) (fun hc => ?_)
    · have h := ite_t hc h
      refine lv_aload_n hx hb d_Row_get_16 rfl (lv_at hl 0 rfl) ?_
      refine hn_get S hE kc_Row 0 rfl rfl 0 (by decide) mw_24 rfl d_Row_get_17 ?_
      refine lv_iload_n hx hb d_Row_get_20 rfl (lv_at hl 1 rfl) ?_
      obtain ⟨hi21, h⟩ := gi_s h
      refine hn_iald S hE 1 0 rfl rfl hi21 d_Row_get_21 ?_
      obtain rfl := Option.some.inj h
      exact hret H locs ls 22 d_Row_get_22 hE
    · have h := ite_f hc h
      refine lv_iconst (v := -1) hx hb d_Row_get_12 (by decide) ?_
      refine lv_goto (tgt := 22) hx hb d_Row_get_13 (by decide) ?_
      obtain rfl := Option.some.inj h
      exact hret H locs ls 22 d_Row_get_22 hE
abbrev rm_Row_set : Room := { frames := 0, cells := 0, slots := 0, locals := 0 }
theorem cf_Row_set : hn_CF y_Row_set b_Row_set 3 none 2 := ⟨mw_237, mw_2, by decide, by decide, by decide +kernel⟩
set_option maxHeartbeats 4000000 in
set_option maxRecDepth 100000 in
theorem c_Row_set (l : Launch) (D : va_G) (cI cZ : ClassId) (tt : Nat → Nat) (h_this h_this_codes : Nat) (sz : Nat) (N_this_codes : Nat) (n_this_size : Int32) (f_this_codes : Nat → Int32) (a1 : Int32) (a2 : Int32) (o : (Nat → Int32)) (h : P_Row_set N_this_codes n_this_size f_this_codes a1 a2 = some o) : Met l y_Row_set (hn_w y_Row_set b_Row_set 3 none) rm_Row_set (hn_Pc D (TY cI cZ) tt [.ref h_this, .int a1, .int a2] sz [(h_this, .inr (0, [.ref h_this_codes, .int n_this_size])), (h_this_codes, .inl (cI, N_this_codes, .inl f_this_codes))]) (hn_Qv D [(h_this, .inr (0, [.ref h_this_codes, .int n_this_size])), (h_this_codes, .inl (cI, N_this_codes, .inl f_this_codes))] sz [(h_this, .inr (0, [.ref h_this_codes, .int n_this_size])), (h_this_codes, .inl (cI, N_this_codes, .inl o))]) 0 0 (va_A [(h_this, .inr (0, [.ref h_this_codes, .int n_this_size])), (h_this_codes, .inl (cI, N_this_codes, .inl f_this_codes))] sz) := by
  refine hn_ofWv (own := R_Row) (by decide) rfl (Nat.le_of_ble_eq_true rfl) ?_
  intro p e s m args below meth c A H locs ls Q S hE hl hret
  have hx := S.1
  have hb := S.2.1
  have hown := S.2.2.2.1
  have hl : lv_has ls 3 [(0, .ref h_this), (1, .int a1), (2, .int a2)] := hl
  unfold P_Row_set at h
  refine lv_iload_n hx hb d_Row_set_0 rfl (lv_at hl 1 rfl) ?_
  refine lv_if_lt (tgt := 19) hx hb d_Row_set_1 (by decide) (fun hc => ?_) (fun hc => ?_)
  · have h := ite_t hc h
    obtain rfl := Option.some.inj h
    exact hret H locs ls 19 d_Row_set_19 hE
  · have h := ite_f hc h
    refine lv_iload_n hx hb d_Row_set_4 rfl (lv_at hl 1 rfl) ?_
    refine lv_aload_n hx hb d_Row_set_5 rfl (lv_at hl 0 rfl) ?_
    refine hn_get S hE kc_Row 0 rfl rfl 1 (by decide) mw_25 rfl d_Row_set_6 ?_
    refine lv_icmp_ge (tgt := 19) hx hb d_Row_set_9 (by decide) (fun hc => ?_) (fun hc => ?_)
    · have h := ite_t hc h
      obtain rfl := Option.some.inj h
      exact hret H locs ls 19 d_Row_set_19 hE
    · have h := ite_f hc h
      refine lv_aload_n hx hb d_Row_set_12 rfl (lv_at hl 0 rfl) ?_
      refine hn_get S hE kc_Row 0 rfl rfl 0 (by decide) mw_24 rfl d_Row_set_13 ?_
      refine lv_iload_n hx hb d_Row_set_16 rfl (lv_at hl 1 rfl) ?_
      refine lv_iload_n hx hb d_Row_set_17 rfl (lv_at hl 2 rfl) ?_
      obtain ⟨hi18, h⟩ := gi_s h
      refine hn_iast S hE 1 0 rfl rfl hi18 d_Row_set_18 (fun H locs hE => ?_)
      have hE : hn_E D (TY cI cZ) tt A s H locs [(h_this, .inr (0, [.ref h_this_codes, .int n_this_size])), (h_this_codes, .inl (cI, N_this_codes, .inl (upd f_this_codes (a1).toNatClampNeg a2)))] := hE
      obtain rfl := Option.some.inj h
      exact hret H locs ls 19 d_Row_set_19 hE
abbrev rm_Row_addPart : Room := { frames := 1, cells := 0, slots := 0, locals := 21 }
theorem cf_Row_addPart : hn_CF y_Row_addPart b_Row_addPart 5 none 3 := ⟨mw_257, mw_2, by decide, by decide, by decide +kernel⟩
set_option maxHeartbeats 4000000 in
set_option maxRecDepth 100000 in
theorem c_Row_addPart (l : Launch) (D : va_G) (cI cZ : ClassId) (tt : Nat → Nat) (h_this h_this_codes h_a1 h_a1_codes : Nat) (sz : Nat) (N_this_codes : Nat) (N_a1_codes : Nat) (n_this_size : Int32) (f_this_codes : Nat → Int32) (n_a1_size : Int32) (f_a1_codes : Nat → Int32) (a2 : Int32) (a3 : Int32) (o : Int32 × (Nat → Int32)) (h : P_Row_addPart N_this_codes N_a1_codes n_this_size f_this_codes n_a1_size f_a1_codes a2 a3 = some o) : Met l y_Row_addPart (hn_w y_Row_addPart b_Row_addPart 5 none) rm_Row_addPart (hn_Pc D (TY cI cZ) tt [.ref h_this, .ref h_a1, .int a2, .int a3] sz [(h_this, .inr (0, [.ref h_this_codes, .int n_this_size])), (h_this_codes, .inl (cI, N_this_codes, .inl f_this_codes)), (h_a1, .inr (0, [.ref h_a1_codes, .int n_a1_size])), (h_a1_codes, .inl (cI, N_a1_codes, .inl f_a1_codes))]) (hn_Qv D [(h_this, .inr (0, [.ref h_this_codes, .int n_this_size])), (h_this_codes, .inl (cI, N_this_codes, .inl f_this_codes)), (h_a1, .inr (0, [.ref h_a1_codes, .int n_a1_size])), (h_a1_codes, .inl (cI, N_a1_codes, .inl f_a1_codes))] sz [(h_this, .inr (0, [.ref h_this_codes, .int o.1])), (h_this_codes, .inl (cI, N_this_codes, .inl o.2)), (h_a1, .inr (0, [.ref h_a1_codes, .int n_a1_size])), (h_a1_codes, .inl (cI, N_a1_codes, .inl f_a1_codes))]) 0 0 (va_A [(h_this, .inr (0, [.ref h_this_codes, .int n_this_size])), (h_this_codes, .inl (cI, N_this_codes, .inl f_this_codes)), (h_a1, .inr (0, [.ref h_a1_codes, .int n_a1_size])), (h_a1_codes, .inl (cI, N_a1_codes, .inl f_a1_codes))] sz) := by
  refine hn_ofWv (own := R_Row) (by decide) rfl (Nat.le_of_ble_eq_true rfl) ?_
  intro p e s m args below meth c A H locs ls Q S hE hl hret
  have hx := S.1
  have hb := S.2.1
  have hown := S.2.2.2.1
  have hl : lv_has ls 5 [(0, .ref h_this), (1, .ref h_a1), (2, .int a2), (3, .int a3)] := hl
  have hL3 : ∀ (kf : Nat) (v4 : Int32) (n_this_size : Int32) (f_this_codes : Nat → Int32) (H : Heap) (locs : List Loc) (ls : Array Slot), hn_E D (TY cI cZ) tt A s H locs [(h_this, .inr (0, [.ref h_this_codes, .int n_this_size])), (h_this_codes, .inl (cI, N_this_codes, .inl f_this_codes)), (h_a1, .inr (0, [.ref h_a1_codes, .int n_a1_size])), (h_a1_codes, .inl (cI, N_a1_codes, .inl f_a1_codes))] → lv_has ls 5 [(0, .ref h_this), (1, .ref h_a1), (3, .int a3), (4, .int v4)] → fl3 (P_Row_addPart_3 N_this_codes N_a1_codes n_a1_size f_a1_codes a3) kf v4 n_this_size f_this_codes = some o → W p l e rm_Row_addPart s m args below meth c H locs 0 0 Q (F0 m 3 ls []) := by
    intro kf
    induction kf with
    | zero => intro v4 n_this_size f_this_codes H locs ls hE hl h; exact no_s h
    | succ kf ih =>
      intro v4 n_this_size f_this_codes H locs ls hE hl h
      have h : P_Row_addPart_3 N_this_codes N_a1_codes n_a1_size f_a1_codes a3 (fl3 (P_Row_addPart_3 N_this_codes N_a1_codes n_a1_size f_a1_codes a3) kf) v4 n_this_size f_this_codes = some o := h
      generalize fl3 (P_Row_addPart_3 N_this_codes N_a1_codes n_a1_size f_a1_codes a3) kf = k3 at ih h
      have hk3 := ih
      unfold P_Row_addPart_3 at h
      refine lv_iload hx hb d_Row_addPart_3 (lv_at hl 3 rfl) ?_
      refine lv_iload_n hx hb d_Row_addPart_5 rfl (lv_at hl 2 rfl) ?_
      refine lv_icmp_ge (tgt := 26) hx hb d_Row_addPart_6 (by decide) (fun hc => ?_) (fun hc => ?_)
      · have h := ite_t hc h
        obtain rfl := Option.some.inj h
        exact hret H locs ls 26 d_Row_addPart_26 hE
      · have h := ite_f hc h
        refine lv_aload_n hx hb d_Row_addPart_9 rfl (lv_at hl 0 rfl) ?_
        refine lv_aload_n hx hb d_Row_addPart_10 rfl (lv_at hl 1 rfl) ?_
        refine lv_iload hx hb d_Row_addPart_11 (lv_at hl 3 rfl) ?_
        obtain ⟨x13, hc13, h⟩ := bd_s h
        have hM := (c_Row_get l D cI cZ tt h_a1 h_a1_codes H.size N_a1_codes n_a1_size f_a1_codes v4 x13 hc13)
        refine hn_ci hE (hn_runV (As := [.int v4]) (rest := [.ref h_this]) S hE hM cf_Row_get mw_258 mw_167 mw_168 ⟨rfl, rfl⟩ ⟨Nat.le_of_ble_eq_true rfl, Nat.le_of_ble_eq_true rfl⟩ [2, 3] rfl rfl rfl rfl rfl rfl hl.1 (lv_room (Nat.le_of_ble_eq_true rfl)) d_Row_addPart_13 ⟨Nat.zero_le _, Nat.zero_le _⟩) [2, 3] rfl rfl (fun H locs hE => ?_)
        have hE : hn_E D (TY cI cZ) tt A s H locs [(h_this, .inr (0, [.ref h_this_codes, .int n_this_size])), (h_this_codes, .inl (cI, N_this_codes, .inl f_this_codes)), (h_a1, .inr (0, [.ref h_a1_codes, .int n_a1_size])), (h_a1_codes, .inl (cI, N_a1_codes, .inl f_a1_codes))] := hE
        obtain ⟨x16, hc16, h⟩ := bd_s h
        have hM := (c_Row_add l D cI cZ tt h_this h_this_codes H.size N_this_codes n_this_size f_this_codes x13 x16 hc16)
        refine hn_cz hE (hn_runV (As := [.int x13]) (rest := []) S hE hM cf_Row_add mw_259 mw_139 mw_140 ⟨rfl, rfl⟩ ⟨Nat.le_of_ble_eq_true rfl, Nat.le_of_ble_eq_true rfl⟩ [0, 1] rfl rfl rfl rfl rfl rfl hl.1 (lv_room (Nat.le_of_ble_eq_true rfl)) d_Row_addPart_16 ⟨Nat.zero_le _, Nat.zero_le _⟩) [0, 1] rfl rfl (fun H locs hz16 hE => ?_)
        have hE : hn_E D (TY cI cZ) tt A s H locs [(h_this, .inr (0, [.ref h_this_codes, .int x16.2.1])), (h_this_codes, .inl (cI, N_this_codes, .inl x16.2.2)), (h_a1, .inr (0, [.ref h_a1_codes, .int n_a1_size])), (h_a1_codes, .inl (cI, N_a1_codes, .inl f_a1_codes))] := hE
        refine lv_pop hx hb d_Row_addPart_19 rfl ?_
        refine lv_iinc (v := (v4 + (1 : Int32))) (lv' := [(4, .int (v4 + (1 : Int32))), (0, .ref h_this), (1, .ref h_a1), (3, .int a3)]) hx hb d_Row_addPart_20 hl (k := 3) rfl rfl (by decide) rfl (fun ls hl => ?_)
        refine lv_goto (tgt := 3) hx hb d_Row_addPart_23 (by decide) ?_
        exact hk3 (v4 + (1 : Int32)) x16.2.1 x16.2.2 H locs ls hE (lv_sub hl [1, 2, 3, 0] rfl) h
  unfold P_Row_addPart at h
  refine lv_iload_n hx hb d_Row_addPart_0 rfl (lv_at hl 2 rfl) ?_
  refine lv_istore (lv' := [(4, .int a2), (0, .ref h_this), (1, .ref h_a1), (2, .int a2), (3, .int a3)]) hx hb d_Row_addPart_1 hl (by decide) rfl (fun ls hl => ?_)
  exact hL3 fu a2 n_this_size f_this_codes H locs ls hE (lv_sub hl [1, 2, 4, 0] rfl) h
abbrev rm_Row_insert : Room := { frames := 0, cells := 0, slots := 0, locals := 0 }
theorem cf_Row_insert : hn_CF y_Row_insert b_Row_insert 4 (some .boolean) 2 := ⟨mw_318, mw_2, by decide, by decide, by decide +kernel⟩
set_option maxHeartbeats 4000000 in
set_option maxRecDepth 100000 in
theorem c_Row_insert (l : Launch) (D : va_G) (cI cZ : ClassId) (tt : Nat → Nat) (h_this h_this_codes : Nat) (sz : Nat) (N_this_codes : Nat) (n_this_size : Int32) (f_this_codes : Nat → Int32) (a1 : Int32) (a2 : Int32) (o : Int32 × Int32 × (Nat → Int32)) (h : P_Row_insert N_this_codes n_this_size f_this_codes a1 a2 = some o) : Met l y_Row_insert (hn_w y_Row_insert b_Row_insert 4 (some .boolean)) rm_Row_insert (hn_Pc D (TY cI cZ) tt [.ref h_this, .int a1, .int a2] sz [(h_this, .inr (0, [.ref h_this_codes, .int n_this_size])), (h_this_codes, .inl (cI, N_this_codes, .inl f_this_codes))]) (hn_Qz D [(h_this, .inr (0, [.ref h_this_codes, .int n_this_size])), (h_this_codes, .inl (cI, N_this_codes, .inl f_this_codes))] sz [(h_this, .inr (0, [.ref h_this_codes, .int o.2.1])), (h_this_codes, .inl (cI, N_this_codes, .inl o.2.2))] o.1) 0 0 (va_A [(h_this, .inr (0, [.ref h_this_codes, .int n_this_size])), (h_this_codes, .inl (cI, N_this_codes, .inl f_this_codes))] sz) := by
  refine hn_ofWz (own := R_Row) (by decide) rfl (Nat.le_of_ble_eq_true rfl) ?_
  intro p e s m args below meth c A H locs ls Q S hE hl hret
  have hx := S.1
  have hb := S.2.1
  have hown := S.2.2.2.1
  have hl : lv_has ls 4 [(0, .ref h_this), (1, .int a1), (2, .int a2)] := hl
  have hL31 : ∀ (n_this_size : Int32) (kf : Nat) (v3 : Int32) (f_this_codes : Nat → Int32) (H : Heap) (locs : List Loc) (ls : Array Slot), hn_E D (TY cI cZ) tt A s H locs [(h_this, .inr (0, [.ref h_this_codes, .int n_this_size])), (h_this_codes, .inl (cI, N_this_codes, .inl f_this_codes))] → lv_has ls 4 [(0, .ref h_this), (1, .int a1), (2, .int a2), (3, .int v3)] → fl2 (P_Row_insert_31 N_this_codes a1 a2 n_this_size) kf v3 f_this_codes = some o → W p l e rm_Row_insert s m args below meth c H locs 0 0 Q (F0 m 31 ls []) := by
    intro n_this_size kf
    induction kf with
    | zero => intro v3 f_this_codes H locs ls hE hl h; exact no_s h
    | succ kf ih =>
      intro v3 f_this_codes H locs ls hE hl h
      have h : P_Row_insert_31 N_this_codes a1 a2 n_this_size (fl2 (P_Row_insert_31 N_this_codes a1 a2 n_this_size) kf) v3 f_this_codes = some o := h
      generalize fl2 (P_Row_insert_31 N_this_codes a1 a2 n_this_size) kf = k31 at ih h
      have hk31 := ih
      unfold P_Row_insert_31 at h
      refine lv_iload_n hx hb d_Row_insert_31 rfl (lv_at hl 3 rfl) ?_
      refine lv_iload_n hx hb d_Row_insert_32 rfl (lv_at hl 1 rfl) ?_
      refine lv_icmp_le (tgt := 56) hx hb d_Row_insert_33 (by decide) (fun hc => ?_) (fun hc => ?_)
      · have h := ite_t hc h
        refine lv_aload_n hx hb d_Row_insert_56 rfl (lv_at hl 0 rfl) ?_
        refine hn_get S hE kc_Row 0 rfl rfl 0 (by decide) mw_24 rfl d_Row_insert_57 ?_
        refine lv_iload_n hx hb d_Row_insert_60 rfl (lv_at hl 1 rfl) ?_
        refine lv_iload_n hx hb d_Row_insert_61 rfl (lv_at hl 2 rfl) ?_
        obtain ⟨hi62, h⟩ := gi_s h
        refine hn_iast S hE 1 0 rfl rfl hi62 d_Row_insert_62 (fun H locs hE => ?_)
        have hE : hn_E D (TY cI cZ) tt A s H locs [(h_this, .inr (0, [.ref h_this_codes, .int n_this_size])), (h_this_codes, .inl (cI, N_this_codes, .inl (upd f_this_codes (a1).toNatClampNeg a2)))] := hE
        refine lv_aload_n hx hb d_Row_insert_63 rfl (lv_at hl 0 rfl) ?_
        refine lv_dup hx hb d_Row_insert_64 rfl ?_
        refine hn_get S hE kc_Row 0 rfl rfl 1 (by decide) mw_25 rfl d_Row_insert_65 ?_
        refine lv_iconst (v := 1) hx hb d_Row_insert_68 (by decide) ?_
        refine lv_iadd hx hb d_Row_insert_69 ?_
        refine hn_put (tv := .int) S hE kc_Row t_Row_ok n_Row 0 rfl rfl 1 (by decide) mw_25 rfl (by decide +kernel) rfl rfl (Nat.le_of_ble_eq_true rfl) d_Row_insert_70 (fun H locs hE => ?_)
        have hE : hn_E D (TY cI cZ) tt A s H locs [(h_this, .inr (0, [.ref h_this_codes, .int (n_this_size + (1 : Int32))])), (h_this_codes, .inl (cI, N_this_codes, .inl (upd f_this_codes (a1).toNatClampNeg a2)))] := hE
        refine lv_iconst (v := 1) hx hb d_Row_insert_73 (by decide) ?_
        obtain rfl := Option.some.inj h
        exact hret H locs ls 74 d_Row_insert_74 narrow_b1 hE
      · have h := ite_f hc h
        refine lv_aload_n hx hb d_Row_insert_36 rfl (lv_at hl 0 rfl) ?_
        refine hn_get S hE kc_Row 0 rfl rfl 0 (by decide) mw_24 rfl d_Row_insert_37 ?_
        refine lv_iload_n hx hb d_Row_insert_40 rfl (lv_at hl 3 rfl) ?_
        refine lv_aload_n hx hb d_Row_insert_41 rfl (lv_at hl 0 rfl) ?_
        refine hn_get S hE kc_Row 0 rfl rfl 0 (by decide) mw_24 rfl d_Row_insert_42 ?_
        refine lv_iload_n hx hb d_Row_insert_45 rfl (lv_at hl 3 rfl) ?_
        refine lv_iconst (v := 1) hx hb d_Row_insert_46 (by decide) ?_
        refine lv_isub hx hb d_Row_insert_47 ?_
        obtain ⟨hi48, h⟩ := gi_s h
        refine hn_iald S hE 1 0 rfl rfl hi48 d_Row_insert_48 ?_
        obtain ⟨hi49, h⟩ := gi_s h
        refine hn_iast S hE 1 0 rfl rfl hi49 d_Row_insert_49 (fun H locs hE => ?_)
        have hE : hn_E D (TY cI cZ) tt A s H locs [(h_this, .inr (0, [.ref h_this_codes, .int n_this_size])), (h_this_codes, .inl (cI, N_this_codes, .inl (upd f_this_codes (v3).toNatClampNeg (f_this_codes ((v3 - (1 : Int32))).toNatClampNeg))))] := hE
        refine lv_iinc (v := (v3 + (-1 : Int32))) (lv' := [(3, .int (v3 + (-1 : Int32))), (0, .ref h_this), (1, .int a1), (2, .int a2)]) hx hb d_Row_insert_50 hl (k := 3) rfl rfl (by decide) rfl (fun ls hl => ?_)
        refine lv_goto (tgt := 31) hx hb d_Row_insert_53 (by decide) ?_
        exact hk31 (v3 + (-1 : Int32)) (upd f_this_codes (v3).toNatClampNeg (f_this_codes ((v3 - (1 : Int32))).toNatClampNeg)) H locs ls hE (lv_sub hl [1, 2, 3, 0] rfl) h
  unfold P_Row_insert at h
  refine lv_aload_n hx hb d_Row_insert_0 rfl (lv_at hl 0 rfl) ?_
  refine hn_get S hE kc_Row 0 rfl rfl 1 (by decide) mw_25 rfl d_Row_insert_1 ?_
  refine lv_aload_n hx hb d_Row_insert_4 rfl (lv_at hl 0 rfl) ?_
  refine hn_get S hE kc_Row 0 rfl rfl 0 (by decide) mw_24 rfl d_Row_insert_5 ?_
  refine hn_alen S hE 1 0 rfl rfl d_Row_insert_8 ?_
  refine lv_icmp_ge (tgt := 24) hx hb d_Row_insert_9 (by decide) (fun hc => ?_) (fun hc => ?_)
  · have h := ite_t hc h
    refine lv_iconst (v := 0) hx hb d_Row_insert_24 (by decide) ?_
    obtain rfl := Option.some.inj h
    exact hret H locs ls 25 d_Row_insert_25 narrow_b0 hE
  · have h := ite_f hc h
    refine lv_iload_n hx hb d_Row_insert_12 rfl (lv_at hl 1 rfl) ?_
    refine lv_if_lt (tgt := 24) hx hb d_Row_insert_13 (by decide) (fun hc => ?_) (fun hc => ?_)
    · have h := ite_t hc h
      refine lv_iconst (v := 0) hx hb d_Row_insert_24 (by decide) ?_
      obtain rfl := Option.some.inj h
      exact hret H locs ls 25 d_Row_insert_25 narrow_b0 hE
    · have h := ite_f hc h
      refine lv_iload_n hx hb d_Row_insert_16 rfl (lv_at hl 1 rfl) ?_
      refine lv_aload_n hx hb d_Row_insert_17 rfl (lv_at hl 0 rfl) ?_
      refine hn_get S hE kc_Row 0 rfl rfl 1 (by decide) mw_25 rfl d_Row_insert_18 ?_
      refine lv_icmp_le (tgt := 26) hx hb d_Row_insert_21 (by decide) (fun hc => ?_) (fun hc => ?_)
      · have h := ite_t hc h
        refine lv_aload_n hx hb d_Row_insert_26 rfl (lv_at hl 0 rfl) ?_
        refine hn_get S hE kc_Row 0 rfl rfl 1 (by decide) mw_25 rfl d_Row_insert_27 ?_
        refine lv_istore_n (lv' := [(3, .int n_this_size), (0, .ref h_this), (1, .int a1), (2, .int a2)]) hx hb d_Row_insert_30 rfl hl (by decide) rfl (fun ls hl => ?_)
        exact hL31 n_this_size fu n_this_size f_this_codes H locs ls hE (lv_sub hl [1, 2, 3, 0] rfl) h
      · have h := ite_f hc h
        refine lv_iconst (v := 0) hx hb d_Row_insert_24 (by decide) ?_
        obtain rfl := Option.some.inj h
        exact hret H locs ls 25 d_Row_insert_25 narrow_b0 hE
abbrev rm_Row_hasAbove : Room := { frames := 0, cells := 0, slots := 0, locals := 0 }
theorem cf_Row_hasAbove : hn_CF y_Row_hasAbove b_Row_hasAbove 3 (some .boolean) 1 := ⟨mw_322, mw_2, by decide, by decide, by decide +kernel⟩
set_option maxHeartbeats 4000000 in
set_option maxRecDepth 100000 in
theorem c_Row_hasAbove (l : Launch) (D : va_G) (cI cZ : ClassId) (tt : Nat → Nat) (h_this h_this_codes : Nat) (sz : Nat) (N_this_codes : Nat) (n_this_size : Int32) (f_this_codes : Nat → Int32) (a1 : Int32) (o : Int32) (h : P_Row_hasAbove N_this_codes n_this_size f_this_codes a1 = some o) : Met l y_Row_hasAbove (hn_w y_Row_hasAbove b_Row_hasAbove 3 (some .boolean)) rm_Row_hasAbove (hn_Pc D (TY cI cZ) tt [.ref h_this, .int a1] sz [(h_this, .inr (0, [.ref h_this_codes, .int n_this_size])), (h_this_codes, .inl (cI, N_this_codes, .inl f_this_codes))]) (hn_Qz D [(h_this, .inr (0, [.ref h_this_codes, .int n_this_size])), (h_this_codes, .inl (cI, N_this_codes, .inl f_this_codes))] sz [(h_this, .inr (0, [.ref h_this_codes, .int n_this_size])), (h_this_codes, .inl (cI, N_this_codes, .inl f_this_codes))] o) 0 0 (va_A [(h_this, .inr (0, [.ref h_this_codes, .int n_this_size])), (h_this_codes, .inl (cI, N_this_codes, .inl f_this_codes))] sz) := by
  refine hn_ofWz (own := R_Row) (by decide) rfl (Nat.le_of_ble_eq_true rfl) ?_
  intro p e s m args below meth c A H locs ls Q S hE hl hret
  have hx := S.1
  have hb := S.2.1
  have hown := S.2.2.2.1
  have hl : lv_has ls 3 [(0, .ref h_this), (1, .int a1)] := hl
  have hL2 : ∀ (kf : Nat) (v2 : Int32) (H : Heap) (locs : List Loc) (ls : Array Slot), hn_E D (TY cI cZ) tt A s H locs [(h_this, .inr (0, [.ref h_this_codes, .int n_this_size])), (h_this_codes, .inl (cI, N_this_codes, .inl f_this_codes))] → lv_has ls 3 [(0, .ref h_this), (1, .int a1), (2, .int v2)] → fl1 (P_Row_hasAbove_2 N_this_codes n_this_size f_this_codes a1) kf v2 = some o → W p l e rm_Row_hasAbove s m args below meth c H locs 0 0 Q (F0 m 2 ls []) := by
    intro kf
    induction kf with
    | zero => intro v2 H locs ls hE hl h; exact no_s h
    | succ kf ih =>
      intro v2 H locs ls hE hl h
      have h : P_Row_hasAbove_2 N_this_codes n_this_size f_this_codes a1 (fl1 (P_Row_hasAbove_2 N_this_codes n_this_size f_this_codes a1) kf) v2 = some o := h
      generalize fl1 (P_Row_hasAbove_2 N_this_codes n_this_size f_this_codes a1) kf = k2 at ih h
      have hk2 := ih
      unfold P_Row_hasAbove_2 at h
      refine lv_iload_n hx hb d_Row_hasAbove_2 rfl (lv_at hl 2 rfl) ?_
      refine lv_aload_n hx hb d_Row_hasAbove_3 rfl (lv_at hl 0 rfl) ?_
      refine hn_get S hE kc_Row 0 rfl rfl 1 (by decide) mw_25 rfl d_Row_hasAbove_4 ?_
      refine lv_icmp_ge (tgt := 28) hx hb d_Row_hasAbove_7 (by decide) (fun hc => ?_) (fun hc => ?_)
      · have h := ite_t hc h
        refine lv_iconst (v := 0) hx hb d_Row_hasAbove_28 (by decide) ?_
        obtain rfl := Option.some.inj h
        exact hret H locs ls 29 d_Row_hasAbove_29 narrow_b0 hE
      · have h := ite_f hc h
        refine lv_aload_n hx hb d_Row_hasAbove_10 rfl (lv_at hl 0 rfl) ?_
        refine hn_get S hE kc_Row 0 rfl rfl 0 (by decide) mw_24 rfl d_Row_hasAbove_11 ?_
        refine lv_iload_n hx hb d_Row_hasAbove_14 rfl (lv_at hl 2 rfl) ?_
        obtain ⟨hi15, h⟩ := gi_s h
        refine hn_iald S hE 1 0 rfl rfl hi15 d_Row_hasAbove_15 ?_
        refine lv_iload_n hx hb d_Row_hasAbove_16 rfl (lv_at hl 1 rfl) ?_
        refine lv_icmp_le (tgt := 22) hx hb d_Row_hasAbove_17 (by decide) (fun hc => ?_) (fun hc => ?_)
        · have h := ite_t hc h
          refine lv_iinc (v := (v2 + (1 : Int32))) (lv' := [(2, .int (v2 + (1 : Int32))), (0, .ref h_this), (1, .int a1)]) hx hb d_Row_hasAbove_22 hl (k := 2) rfl rfl (by decide) rfl (fun ls hl => ?_)
          refine lv_goto (tgt := 2) hx hb d_Row_hasAbove_25 (by decide) ?_
          exact hk2 (v2 + (1 : Int32)) H locs ls hE (lv_sub hl [1, 2, 0] rfl) h
        · have h := ite_f hc h
          refine lv_iconst (v := 1) hx hb d_Row_hasAbove_20 (by decide) ?_
          obtain rfl := Option.some.inj h
          exact hret H locs ls 21 d_Row_hasAbove_21 narrow_b1 hE
  unfold P_Row_hasAbove at h
  refine lv_iconst (v := 0) hx hb d_Row_hasAbove_0 (by decide) ?_
  refine lv_istore_n (lv' := [(2, .int (0 : Int32)), (0, .ref h_this), (1, .int a1)]) hx hb d_Row_hasAbove_1 rfl hl (by decide) rfl (fun ls hl => ?_)
  exact hL2 fu (0 : Int32) H locs ls hE (lv_sub hl [1, 2, 0] rfl) h
abbrev rm_Row_isSameAs : Room := { frames := 1, cells := 0, slots := 0, locals := 21 }
theorem cf_Row_isSameAs : hn_CF y_Row_isSameAs b_Row_isSameAs 3 (some .boolean) 1 := ⟨mw_374, mw_2, by decide, by decide, by decide +kernel⟩
set_option maxHeartbeats 4000000 in
set_option maxRecDepth 100000 in
theorem c_Row_isSameAs (l : Launch) (D : va_G) (cI cZ : ClassId) (tt : Nat → Nat) (h_this h_this_codes h_a1 h_a1_codes : Nat) (sz : Nat) (N_this_codes : Nat) (N_a1_codes : Nat) (n_this_size : Int32) (f_this_codes : Nat → Int32) (n_a1_size : Int32) (f_a1_codes : Nat → Int32) (o : Int32) (h : P_Row_isSameAs N_this_codes N_a1_codes n_this_size f_this_codes n_a1_size f_a1_codes = some o) : Met l y_Row_isSameAs (hn_w y_Row_isSameAs b_Row_isSameAs 3 (some .boolean)) rm_Row_isSameAs (hn_Pc D (TY cI cZ) tt [.ref h_this, .ref h_a1] sz [(h_this, .inr (0, [.ref h_this_codes, .int n_this_size])), (h_this_codes, .inl (cI, N_this_codes, .inl f_this_codes)), (h_a1, .inr (0, [.ref h_a1_codes, .int n_a1_size])), (h_a1_codes, .inl (cI, N_a1_codes, .inl f_a1_codes))]) (hn_Qz D [(h_this, .inr (0, [.ref h_this_codes, .int n_this_size])), (h_this_codes, .inl (cI, N_this_codes, .inl f_this_codes)), (h_a1, .inr (0, [.ref h_a1_codes, .int n_a1_size])), (h_a1_codes, .inl (cI, N_a1_codes, .inl f_a1_codes))] sz [(h_this, .inr (0, [.ref h_this_codes, .int n_this_size])), (h_this_codes, .inl (cI, N_this_codes, .inl f_this_codes)), (h_a1, .inr (0, [.ref h_a1_codes, .int n_a1_size])), (h_a1_codes, .inl (cI, N_a1_codes, .inl f_a1_codes))] o) 0 0 (va_A [(h_this, .inr (0, [.ref h_this_codes, .int n_this_size])), (h_this_codes, .inl (cI, N_this_codes, .inl f_this_codes)), (h_a1, .inr (0, [.ref h_a1_codes, .int n_a1_size])), (h_a1_codes, .inl (cI, N_a1_codes, .inl f_a1_codes))] sz) := by
  refine hn_ofWz (own := R_Row) (by decide) rfl (Nat.le_of_ble_eq_true rfl) ?_
  intro p e s m args below meth c A H locs ls Q S hE hl hret
  have hx := S.1
  have hb := S.2.1
  have hown := S.2.2.2.1
  have hl : lv_has ls 3 [(0, .ref h_this), (1, .ref h_a1)] := hl
  have hL15 : ∀ (kf : Nat) (v2 : Int32) (H : Heap) (locs : List Loc) (ls : Array Slot), hn_E D (TY cI cZ) tt A s H locs [(h_this, .inr (0, [.ref h_this_codes, .int n_this_size])), (h_this_codes, .inl (cI, N_this_codes, .inl f_this_codes)), (h_a1, .inr (0, [.ref h_a1_codes, .int n_a1_size])), (h_a1_codes, .inl (cI, N_a1_codes, .inl f_a1_codes))] → lv_has ls 3 [(0, .ref h_this), (1, .ref h_a1), (2, .int v2)] → fl1 (P_Row_isSameAs_15 N_this_codes N_a1_codes n_this_size f_this_codes n_a1_size f_a1_codes) kf v2 = some o → W p l e rm_Row_isSameAs s m args below meth c H locs 0 0 Q (F0 m 15 ls []) := by
    intro kf
    induction kf with
    | zero => intro v2 H locs ls hE hl h; exact no_s h
    | succ kf ih =>
      intro v2 H locs ls hE hl h
      have h : P_Row_isSameAs_15 N_this_codes N_a1_codes n_this_size f_this_codes n_a1_size f_a1_codes (fl1 (P_Row_isSameAs_15 N_this_codes N_a1_codes n_this_size f_this_codes n_a1_size f_a1_codes) kf) v2 = some o := h
      generalize fl1 (P_Row_isSameAs_15 N_this_codes N_a1_codes n_this_size f_this_codes n_a1_size f_a1_codes) kf = k15 at ih h
      have hk15 := ih
      unfold P_Row_isSameAs_15 at h
      refine lv_iload_n hx hb d_Row_isSameAs_15 rfl (lv_at hl 2 rfl) ?_
      refine lv_aload_n hx hb d_Row_isSameAs_16 rfl (lv_at hl 0 rfl) ?_
      refine hn_get S hE kc_Row 0 rfl rfl 1 (by decide) mw_25 rfl d_Row_isSameAs_17 ?_
      refine lv_icmp_ge (tgt := 45) hx hb d_Row_isSameAs_20 (by decide) (fun hc => ?_) (fun hc => ?_)
      · have h := ite_t hc h
        refine lv_iconst (v := 1) hx hb d_Row_isSameAs_45 (by decide) ?_
        obtain rfl := Option.some.inj h
        exact hret H locs ls 46 d_Row_isSameAs_46 narrow_b1 hE
      · have h := ite_f hc h
        refine lv_aload_n hx hb d_Row_isSameAs_23 rfl (lv_at hl 0 rfl) ?_
        refine hn_get S hE kc_Row 0 rfl rfl 0 (by decide) mw_24 rfl d_Row_isSameAs_24 ?_
        refine lv_iload_n hx hb d_Row_isSameAs_27 rfl (lv_at hl 2 rfl) ?_
        obtain ⟨hi28, h⟩ := gi_s h
        refine hn_iald S hE 1 0 rfl rfl hi28 d_Row_isSameAs_28 ?_
        refine lv_aload_n hx hb d_Row_isSameAs_29 rfl (lv_at hl 1 rfl) ?_
        refine lv_iload_n hx hb d_Row_isSameAs_30 rfl (lv_at hl 2 rfl) ?_
        obtain ⟨x31, hc31, h⟩ := bd_s h
        have hM := (c_Row_get l D cI cZ tt h_a1 h_a1_codes H.size N_a1_codes n_a1_size f_a1_codes v2 x31 hc31)
        refine hn_ci hE (hn_runV (As := [.int v2]) (rest := [.int (f_this_codes (v2).toNatClampNeg)]) S hE hM cf_Row_get mw_258 mw_167 mw_168 ⟨rfl, rfl⟩ ⟨Nat.le_of_ble_eq_true rfl, Nat.le_of_ble_eq_true rfl⟩ [2, 3] rfl rfl rfl rfl rfl rfl hl.1 (lv_room (Nat.le_of_ble_eq_true rfl)) d_Row_isSameAs_31 ⟨Nat.zero_le _, Nat.zero_le _⟩) [2, 3] rfl rfl (fun H locs hE => ?_)
        have hE : hn_E D (TY cI cZ) tt A s H locs [(h_this, .inr (0, [.ref h_this_codes, .int n_this_size])), (h_this_codes, .inl (cI, N_this_codes, .inl f_this_codes)), (h_a1, .inr (0, [.ref h_a1_codes, .int n_a1_size])), (h_a1_codes, .inl (cI, N_a1_codes, .inl f_a1_codes))] := hE
        refine lv_icmp_eq (tgt := 39) hx hb d_Row_isSameAs_34 (by decide) (fun hc => ?_) (fun hc => ?_)
        · have h := ite_t hc h
          refine lv_iinc (v := (v2 + (1 : Int32))) (lv' := [(2, .int (v2 + (1 : Int32))), (0, .ref h_this), (1, .ref h_a1)]) hx hb d_Row_isSameAs_39 hl (k := 2) rfl rfl (by decide) rfl (fun ls hl => ?_)
          refine lv_goto (tgt := 15) hx hb d_Row_isSameAs_42 (by decide) ?_
          exact hk15 (v2 + (1 : Int32)) H locs ls hE (lv_sub hl [1, 2, 0] rfl) h
        · have h := ite_f hc h
          refine lv_iconst (v := 0) hx hb d_Row_isSameAs_37 (by decide) ?_
          obtain rfl := Option.some.inj h
          exact hret H locs ls 38 d_Row_isSameAs_38 narrow_b0 hE
  unfold P_Row_isSameAs at h
  refine lv_aload_n hx hb d_Row_isSameAs_0 rfl (lv_at hl 0 rfl) ?_
  refine hn_get S hE kc_Row 0 rfl rfl 1 (by decide) mw_25 rfl d_Row_isSameAs_1 ?_
  refine lv_aload_n hx hb d_Row_isSameAs_4 rfl (lv_at hl 1 rfl) ?_
  obtain ⟨x5, hc5, h⟩ := bd_s h
  have hM := (c_Row_size l D cI cZ tt h_a1 h_a1_codes H.size N_a1_codes n_a1_size f_a1_codes x5 hc5)
  refine hn_ci hE (hn_runV (As := []) (rest := [.int n_this_size]) S hE hM cf_Row_size mw_375 mw_147 mw_148 ⟨rfl, rfl⟩ ⟨Nat.le_of_ble_eq_true rfl, Nat.le_of_ble_eq_true rfl⟩ [2, 3] rfl rfl rfl rfl rfl rfl hl.1 (lv_room (Nat.le_of_ble_eq_true rfl)) d_Row_isSameAs_5 ⟨Nat.zero_le _, Nat.zero_le _⟩) [2, 3] rfl rfl (fun H locs hE => ?_)
  have hE : hn_E D (TY cI cZ) tt A s H locs [(h_this, .inr (0, [.ref h_this_codes, .int n_this_size])), (h_this_codes, .inl (cI, N_this_codes, .inl f_this_codes)), (h_a1, .inr (0, [.ref h_a1_codes, .int n_a1_size])), (h_a1_codes, .inl (cI, N_a1_codes, .inl f_a1_codes))] := hE
  refine lv_icmp_eq (tgt := 13) hx hb d_Row_isSameAs_8 (by decide) (fun hc => ?_) (fun hc => ?_)
  · have h := ite_t hc h
    refine lv_iconst (v := 0) hx hb d_Row_isSameAs_13 (by decide) ?_
    refine lv_istore_n (lv' := [(2, .int (0 : Int32)), (0, .ref h_this), (1, .ref h_a1)]) hx hb d_Row_isSameAs_14 rfl hl (by decide) rfl (fun ls hl => ?_)
    exact hL15 fu (0 : Int32) H locs ls hE (lv_sub hl [1, 2, 0] rfl) h
  · have h := ite_f hc h
    refine lv_iconst (v := 0) hx hb d_Row_isSameAs_11 (by decide) ?_
    obtain rfl := Option.some.inj h
    exact hret H locs ls 12 d_Row_isSameAs_12 narrow_b0 hE
end
section
def P_Codes_isWithin (a1 : Int32) (a2 : Int32) (a3 : Int32) : Option (Int32) :=
  if a1 < a2 then (some ((0 : Int32))) else (if a3 < a1 then (some ((0 : Int32))) else (some ((1 : Int32))))
def P_Codes_isOdd (a1 : Int32) : Option (Int32) :=
  if a1 = (223 : Int32) then (some ((1 : Int32))) else (if a1 = (962 : Int32) then (some ((1 : Int32))) else (if a1 = (8204 : Int32) then (some ((1 : Int32))) else (if a1 = (8205 : Int32) then (some ((1 : Int32))) else (some ((0 : Int32))))))
def P_Codes_isCapital (a1 : Int32) : Option (Int32) :=
  if a1 < (65 : Int32) then (some ((0 : Int32))) else (if (90 : Int32) < a1 then (some ((0 : Int32))) else (some ((1 : Int32))))
def P_Codes_mappedTo_93 (a1 : Int32) (v1 : Int32) (s0 : Int32) : Option (Int32) :=
  Option.bind (P_Codes_isCapital a1) (fun x95 => if x95 = 0 then (if v1 = 0 then (if s0 = 0 then (some (a1)) else (some ((a1 + (32 : Int32))))) else (some ((a1 + (32 : Int32))))) else (some ((a1 + (32 : Int32)))))
def P_Codes_mappedTo_67 (a1 : Int32) (s0 : Int32) : Option (Int32) :=
  Option.bind (P_Codes_isWithin a1 (913 : Int32) (937 : Int32)) (fun x75 => if x75 = 0 then (P_Codes_mappedTo_93 a1 s0 (0 : Int32)) else (if a1 = (930 : Int32) then (P_Codes_mappedTo_93 a1 s0 (0 : Int32)) else (P_Codes_mappedTo_93 a1 s0 (1 : Int32))))
def P_Codes_mappedTo (a1 : Int32) : Option (Int32) :=
  Option.bind (P_Codes_isWithin a1 (65281 : Int32) (65374 : Int32)) (fun x5 => if x5 = 0 then (if a1 = (12290 : Int32) then (some ((46 : Int32))) else (Option.bind (P_Codes_isWithin a1 (192 : Int32) (222 : Int32)) (fun x49 => if x49 = 0 then (P_Codes_mappedTo_67 a1 (0 : Int32)) else (if a1 = (215 : Int32) then (P_Codes_mappedTo_67 a1 (0 : Int32)) else (P_Codes_mappedTo_67 a1 (1 : Int32)))))) else (Option.bind (P_Codes_isCapital (a1 - (65248 : Int32))) (fun x17 => if x17 = 0 then (some ((a1 - (65248 : Int32)))) else (some (((a1 - (65248 : Int32)) + (32 : Int32)))))))
def P_Codes_isInGoodRanges_2 (a1 : Int32) (k2 : (Int32) → Option (Int32)) (v1 : Int32) : Option (Int32) :=
  if (36 : Int32) ≤ (v1 + (1 : Int32)) then (some ((0 : Int32))) else (gi v1 36 (if a1 < (tb_good (v1).toNatClampNeg) then (k2 (v1 + (2 : Int32))) else (gi (v1 + (1 : Int32)) 36 (if (tb_good ((v1 + (1 : Int32))).toNatClampNeg) < a1 then (k2 (v1 + (2 : Int32))) else (some ((1 : Int32)))))))
def P_Codes_isInGoodRanges (a1 : Int32) : Option (Int32) :=
  fl1 (P_Codes_isInGoodRanges_2 a1) fu (0 : Int32)
def P_Codes_isPlain (a1 : Int32) : Option (Int32) :=
  Option.bind (P_Codes_isWithin a1 (0 : Int32) (127 : Int32)) (fun x4 => if x4 = 0 then (some ((0 : Int32))) else (Option.bind (P_Codes_isCapital a1) (fun x11 => if x11 = 0 then (Option.bind (P_Codes_isInGoodRanges a1) (fun x18 => if x18 = 0 then (some ((1 : Int32))) else (some ((0 : Int32))))) else (some ((0 : Int32))))))
def P_Codes_isGood_18 (a1 : Int32) (a3 : Int32) : Option (Int32) :=
  if a3 = 0 then (Option.bind (P_Codes_isOdd a1) (fun x23 => if x23 = 0 then (some ((0 : Int32))) else (some ((1 : Int32))))) else (some ((0 : Int32)))
def P_Codes_isGood (a1 : Int32) (a2 : Int32) (a3 : Int32) : Option (Int32) :=
  Option.bind (P_Codes_isInGoodRanges a1) (fun x1 => if x1 = 0 then (if a2 = 0 then (Option.bind (P_Codes_isPlain a1) (fun x12 => if x12 = 0 then (P_Codes_isGood_18 a1 a3) else (some ((1 : Int32))))) else (P_Codes_isGood_18 a1 a3)) else (some ((1 : Int32))))
def P_Codes_order (a1 : Int32) : Option (Int32) :=
  if a1 = (768 : Int32) then (some ((230 : Int32))) else (if a1 = (769 : Int32) then (some ((230 : Int32))) else (if a1 = (776 : Int32) then (some ((230 : Int32))) else (if a1 = (807 : Int32) then (some ((202 : Int32))) else (if a1 = (1614 : Int32) then (some ((30 : Int32))) else (if a1 = (2381 : Int32) then (some ((9 : Int32))) else (some ((0 : Int32))))))))
def P_Math_min (a1 : Int32) (a2 : Int32) : Option (Int32) :=
  if a2 < a1 then (some (a2)) else (some (a1))
def P_Math_max (a1 : Int32) (a2 : Int32) : Option (Int32) :=
  if a1 < a2 then (some (a2)) else (some (a1))
def P_Codes_isMark (a1 : Int32) : Option (Int32) :=
  Option.bind (P_Codes_order a1) (fun x1 => if x1 ≤ 0 then (some ((0 : Int32))) else (some ((1 : Int32))))
def P_Codes_asciiDirection (a1 : Int32) : Option (Int32) :=
  Option.bind (P_Codes_isWithin a1 (48 : Int32) (57 : Int32)) (fun x5 => if x5 = 0 then (if a1 = (45 : Int32) then (some ((32 : Int32))) else (Option.bind (P_Codes_isCapital a1) (fun x24 => if x24 = 0 then (Option.bind (P_Codes_isWithin a1 (97 : Int32) (122 : Int32)) (fun x35 => if x35 = 0 then (some ((256 : Int32))) else (some ((1 : Int32))))) else (some ((1 : Int32)))))) else (some ((16 : Int32))))
def P_Codes_direction (a1 : Int32) : Option (Int32) :=
  Option.bind (P_Codes_isMark a1) (fun x1 => if x1 = 0 then (Option.bind (P_Codes_isWithin a1 (0 : Int32) (127 : Int32)) (fun x14 => if x14 = 0 then (Option.bind (P_Codes_isWithin a1 (1488 : Int32) (1514 : Int32)) (fun x32 => if x32 = 0 then (if a1 = (1575 : Int32) then (some ((4 : Int32))) else (if a1 = (1576 : Int32) then (some ((4 : Int32))) else (Option.bind (P_Codes_isWithin a1 (1632 : Int32) (1641 : Int32)) (fun x63 => if x63 = 0 then (Option.bind (P_Codes_isWithin a1 (1776 : Int32) (1785 : Int32)) (fun x79 => if x79 = 0 then (if a1 = (8204 : Int32) then (some ((128 : Int32))) else (if a1 = (8205 : Int32) then (some ((128 : Int32))) else (some ((1 : Int32))))) else (some ((16 : Int32))))) else (some ((8 : Int32))))))) else (some ((2 : Int32))))) else (Option.bind (P_Codes_asciiDirection a1) (fun x21 => some (x21))))) else (some ((64 : Int32))))
def P_Codes_hasRightToLeft_2 (N_a1_codes : Nat) (n_a1_size : Int32) (f_a1_codes : Nat → Int32) (k2 : (Int32) → Option (Int32)) (v1 : Int32) : Option (Int32) :=
  Option.bind (P_Row_size n_a1_size) (fun x4 => if x4 ≤ v1 then (some ((0 : Int32))) else (Option.bind (P_Row_get N_a1_codes n_a1_size f_a1_codes v1) (fun x12 => Option.bind (P_Codes_direction x12) (fun x15 => if (x15 &&& (14 : Int32)) = 0 then (k2 (v1 + (1 : Int32))) else (some ((1 : Int32)))))))
def P_Codes_hasRightToLeft (N_a1_codes : Nat) (n_a1_size : Int32) (f_a1_codes : Nat → Int32) : Option (Int32) :=
  fl1 (P_Codes_hasRightToLeft_2 N_a1_codes n_a1_size f_a1_codes) fu (0 : Int32)
def P_Codes_joining (a1 : Int32) : Option (Int32) :=
  if a1 = (1575 : Int32) then (some ((1 : Int32))) else (if a1 = (1576 : Int32) then (some ((2 : Int32))) else (if a1 = (1614 : Int32) then (some ((3 : Int32))) else (if a1 = (2381 : Int32) then (some ((3 : Int32))) else (some ((0 : Int32))))))
end
section
abbrev rm_Codes_isWithin : Room := { frames := 0, cells := 0, slots := 0, locals := 0 }
theorem cf_Codes_isWithin : hn_CF y_Codes_isWithin b_Codes_isWithin 3 (some .boolean) 3 := ⟨mw_136, mw_8, by decide, by decide, by decide +kernel⟩
set_option maxHeartbeats 4000000 in
set_option maxRecDepth 100000 in
theorem c_Codes_isWithin (l : Launch) (D : va_G) (cI cZ : ClassId) (tt : Nat → Nat) (sz : Nat) (a1 : Int32) (a2 : Int32) (a3 : Int32) (o : Int32) (h : P_Codes_isWithin a1 a2 a3 = some o) : Met l y_Codes_isWithin (hn_w y_Codes_isWithin b_Codes_isWithin 3 (some .boolean)) rm_Codes_isWithin (hn_Pc D (TY cI cZ) tt [.int a1, .int a2, .int a3] sz []) (hn_Qz D [] sz [] o) 0 0 (va_A [] sz) := by
  refine hn_ofWz (own := R_Codes) (by decide) rfl (Nat.le_of_ble_eq_true rfl) ?_
  intro p e s m args below meth c A H locs ls Q S hE hl hret
  have hx := S.1
  have hb := S.2.1
  have hown := S.2.2.2.1
  have hl : lv_has ls 3 [(0, .int a1), (1, .int a2), (2, .int a3)] := hl
  unfold P_Codes_isWithin at h
  refine lv_iload_n hx hb d_Codes_isWithin_0 rfl (lv_at hl 0 rfl) ?_
  refine lv_iload_n hx hb d_Codes_isWithin_1 rfl (lv_at hl 1 rfl) ?_
  refine lv_icmp_lt (tgt := 14) hx hb d_Codes_isWithin_2 (by decide) (fun hc => ?_) (fun hc => ?_)
  · have h := ite_t hc h
    refine lv_iconst (v := 0) hx hb d_Codes_isWithin_14 (by decide) ?_
    obtain rfl := Option.some.inj h
    exact hret H locs ls 15 d_Codes_isWithin_15 narrow_b0 hE
  · have h := ite_f hc h
    refine lv_iload_n hx hb d_Codes_isWithin_5 rfl (lv_at hl 0 rfl) ?_
    refine lv_iload_n hx hb d_Codes_isWithin_6 rfl (lv_at hl 2 rfl) ?_
    refine lv_icmp_gt (tgt := 14) hx hb d_Codes_isWithin_7 (by decide) (fun hc => ?_) (fun hc => ?_)
    · have h := ite_t hc h
      refine lv_iconst (v := 0) hx hb d_Codes_isWithin_14 (by decide) ?_
      obtain rfl := Option.some.inj h
      exact hret H locs ls 15 d_Codes_isWithin_15 narrow_b0 hE
    · have h := ite_f hc h
      refine lv_iconst (v := 1) hx hb d_Codes_isWithin_10 (by decide) ?_
      refine lv_goto (tgt := 15) hx hb d_Codes_isWithin_11 (by decide) ?_
      obtain rfl := Option.some.inj h
      exact hret H locs ls 15 d_Codes_isWithin_15 narrow_b1 hE
abbrev rm_Codes_isOdd : Room := { frames := 0, cells := 0, slots := 0, locals := 0 }
theorem cf_Codes_isOdd : hn_CF y_Codes_isOdd b_Codes_isOdd 1 (some .boolean) 1 := ⟨mw_176, mw_8, by decide, by decide, by decide +kernel⟩
set_option maxHeartbeats 4000000 in
set_option maxRecDepth 100000 in
theorem c_Codes_isOdd (l : Launch) (D : va_G) (cI cZ : ClassId) (tt : Nat → Nat) (sz : Nat) (a1 : Int32) (o : Int32) (h : P_Codes_isOdd a1 = some o) : Met l y_Codes_isOdd (hn_w y_Codes_isOdd b_Codes_isOdd 1 (some .boolean)) rm_Codes_isOdd (hn_Pc D (TY cI cZ) tt [.int a1] sz []) (hn_Qz D [] sz [] o) 0 0 (va_A [] sz) := by
  refine hn_ofWz (own := R_Codes) (by decide) rfl (Nat.le_of_ble_eq_true rfl) ?_
  intro p e s m args below meth c A H locs ls Q S hE hl hret
  have hx := S.1
  have hb := S.2.1
  have hown := S.2.2.2.1
  have hl : lv_has ls 1 [(0, .int a1)] := hl
  unfold P_Codes_isOdd at h
  refine lv_iload_n hx hb d_Codes_isOdd_0 rfl (lv_at hl 0 rfl) ?_
  refine lv_sipush (v := 223) hx hb d_Codes_isOdd_1 (by decide) ?_
  refine lv_icmp_eq (tgt := 28) hx hb d_Codes_isOdd_4 (by decide) (fun hc => ?_) (fun hc => ?_)
  · have h := ite_t hc h
    refine lv_iconst (v := 1) hx hb d_Codes_isOdd_28 (by decide) ?_
    refine lv_goto (tgt := 33) hx hb d_Codes_isOdd_29 (by decide) ?_
    obtain rfl := Option.some.inj h
    exact hret H locs ls 33 d_Codes_isOdd_33 narrow_b1 hE
  · have h := ite_f hc h
    refine lv_iload_n hx hb d_Codes_isOdd_7 rfl (lv_at hl 0 rfl) ?_
    refine lv_sipush (v := 962) hx hb d_Codes_isOdd_8 (by decide) ?_
    refine lv_icmp_eq (tgt := 28) hx hb d_Codes_isOdd_11 (by decide) (fun hc => ?_) (fun hc => ?_)
    · have h := ite_t hc h
      refine lv_iconst (v := 1) hx hb d_Codes_isOdd_28 (by decide) ?_
      refine lv_goto (tgt := 33) hx hb d_Codes_isOdd_29 (by decide) ?_
      obtain rfl := Option.some.inj h
      exact hret H locs ls 33 d_Codes_isOdd_33 narrow_b1 hE
    · have h := ite_f hc h
      refine lv_iload_n hx hb d_Codes_isOdd_14 rfl (lv_at hl 0 rfl) ?_
      refine lv_sipush (v := 8204) hx hb d_Codes_isOdd_15 (by decide) ?_
      refine lv_icmp_eq (tgt := 28) hx hb d_Codes_isOdd_18 (by decide) (fun hc => ?_) (fun hc => ?_)
      · have h := ite_t hc h
        refine lv_iconst (v := 1) hx hb d_Codes_isOdd_28 (by decide) ?_
        refine lv_goto (tgt := 33) hx hb d_Codes_isOdd_29 (by decide) ?_
        obtain rfl := Option.some.inj h
        exact hret H locs ls 33 d_Codes_isOdd_33 narrow_b1 hE
      · have h := ite_f hc h
        refine lv_iload_n hx hb d_Codes_isOdd_21 rfl (lv_at hl 0 rfl) ?_
        refine lv_sipush (v := 8205) hx hb d_Codes_isOdd_22 (by decide) ?_
        refine lv_icmp_ne (tgt := 32) hx hb d_Codes_isOdd_25 (by decide) (fun hc => ?_) (fun hc => ?_)
        · have h := ite_f hc h
          refine lv_iconst (v := 0) hx hb d_Codes_isOdd_32 (by decide) ?_
          obtain rfl := Option.some.inj h
          exact hret H locs ls 33 d_Codes_isOdd_33 narrow_b0 hE
        · have h := ite_t hc h
          refine lv_iconst (v := 1) hx hb d_Codes_isOdd_28 (by decide) ?_
          refine lv_goto (tgt := 33) hx hb d_Codes_isOdd_29 (by decide) ?_
          obtain rfl := Option.some.inj h
          exact hret H locs ls 33 d_Codes_isOdd_33 narrow_b1 hE
abbrev rm_Codes_isCapital : Room := { frames := 0, cells := 0, slots := 0, locals := 0 }
theorem cf_Codes_isCapital : hn_CF y_Codes_isCapital b_Codes_isCapital 1 (some .boolean) 1 := ⟨mw_190, mw_8, by decide, by decide, by decide +kernel⟩
set_option maxHeartbeats 4000000 in
set_option maxRecDepth 100000 in
theorem c_Codes_isCapital (l : Launch) (D : va_G) (cI cZ : ClassId) (tt : Nat → Nat) (sz : Nat) (a1 : Int32) (o : Int32) (h : P_Codes_isCapital a1 = some o) : Met l y_Codes_isCapital (hn_w y_Codes_isCapital b_Codes_isCapital 1 (some .boolean)) rm_Codes_isCapital (hn_Pc D (TY cI cZ) tt [.int a1] sz []) (hn_Qz D [] sz [] o) 0 0 (va_A [] sz) := by
  refine hn_ofWz (own := R_Codes) (by decide) rfl (Nat.le_of_ble_eq_true rfl) ?_
  intro p e s m args below meth c A H locs ls Q S hE hl hret
  have hx := S.1
  have hb := S.2.1
  have hown := S.2.2.2.1
  have hl : lv_has ls 1 [(0, .int a1)] := hl
  unfold P_Codes_isCapital at h
  refine lv_iload_n hx hb d_Codes_isCapital_0 rfl (lv_at hl 0 rfl) ?_
  refine lv_bipush (v := 65) hx hb d_Codes_isCapital_1 (by decide) ?_
  refine lv_icmp_lt (tgt := 16) hx hb d_Codes_isCapital_3 (by decide) (fun hc => ?_) (fun hc => ?_)
  · have h := ite_t hc h
    refine lv_iconst (v := 0) hx hb d_Codes_isCapital_16 (by decide) ?_
    obtain rfl := Option.some.inj h
    exact hret H locs ls 17 d_Codes_isCapital_17 narrow_b0 hE
  · have h := ite_f hc h
    refine lv_iload_n hx hb d_Codes_isCapital_6 rfl (lv_at hl 0 rfl) ?_
    refine lv_bipush (v := 90) hx hb d_Codes_isCapital_7 (by decide) ?_
    refine lv_icmp_gt (tgt := 16) hx hb d_Codes_isCapital_9 (by decide) (fun hc => ?_) (fun hc => ?_)
    · have h := ite_t hc h
      refine lv_iconst (v := 0) hx hb d_Codes_isCapital_16 (by decide) ?_
      obtain rfl := Option.some.inj h
      exact hret H locs ls 17 d_Codes_isCapital_17 narrow_b0 hE
    · have h := ite_f hc h
      refine lv_iconst (v := 1) hx hb d_Codes_isCapital_12 (by decide) ?_
      refine lv_goto (tgt := 17) hx hb d_Codes_isCapital_13 (by decide) ?_
      obtain rfl := Option.some.inj h
      exact hret H locs ls 17 d_Codes_isCapital_17 narrow_b1 hE
abbrev rm_Codes_mappedTo : Room := { frames := 1, cells := 0, slots := 0, locals := 22 }
theorem cf_Codes_mappedTo : hn_CF y_Codes_mappedTo b_Codes_mappedTo 3 (some .int) 1 := ⟨mw_183, mw_8, by decide, by decide, by decide +kernel⟩
set_option maxHeartbeats 4000000 in
set_option maxRecDepth 100000 in
theorem c_Codes_mappedTo (l : Launch) (D : va_G) (cI cZ : ClassId) (tt : Nat → Nat) (sz : Nat) (a1 : Int32) (o : Int32) (h : P_Codes_mappedTo a1 = some o) : Met l y_Codes_mappedTo (hn_w y_Codes_mappedTo b_Codes_mappedTo 3 (some .int)) rm_Codes_mappedTo (hn_Pc D (TY cI cZ) tt [.int a1] sz []) (hn_Qi D [] sz [] o) 0 0 (va_A [] sz) := by
  refine hn_ofWi (own := R_Codes) (by decide) rfl (Nat.le_of_ble_eq_true rfl) ?_
  intro p e s m args below meth c A H locs ls Q S hE hl hret
  have hx := S.1
  have hb := S.2.1
  have hown := S.2.2.2.1
  have hl : lv_has ls 3 [(0, .int a1)] := hl
  have hj93 : ∀ (v1 : Int32) (s0 : Int32) (H : Heap) (locs : List Loc) (ls : Array Slot), hn_E D (TY cI cZ) tt A s H locs [] → lv_has ls 3 [(0, .int a1), (1, .int v1)] → P_Codes_mappedTo_93 a1 v1 s0 = some o → W p l e rm_Codes_mappedTo s m args below meth c H locs 0 0 Q (F0 m 93 ls [.int s0]) := by
    intro v1 s0 H locs ls hE hl h
    unfold P_Codes_mappedTo_93 at h
    refine lv_istore_n (lv' := [(2, .int s0), (0, .int a1), (1, .int v1)]) hx hb d_Codes_mappedTo_93 rfl hl (by decide) rfl (fun ls hl => ?_)
    refine lv_iload_n hx hb d_Codes_mappedTo_94 rfl (lv_at hl 1 rfl) ?_
    obtain ⟨x95, hc95, h⟩ := bd_s h
    have hM := (c_Codes_isCapital l D cI cZ tt H.size a1 x95 hc95)
    refine hn_cz hE (hn_runS (As := [.int a1]) (rest := []) S hE hM cf_Codes_isCapital mw_188 mw_189 ⟨rfl, rfl⟩ ⟨Nat.le_of_ble_eq_true rfl, Nat.le_of_ble_eq_true rfl⟩ [] rfl rfl rfl rfl hl.1 (lv_room (Nat.le_of_ble_eq_true rfl)) d_Codes_mappedTo_95 ⟨Nat.zero_le _, Nat.zero_le _⟩) [] rfl rfl (fun H locs hz95 hE => ?_)
    have hE : hn_E D (TY cI cZ) tt A s H locs [] := hE
    refine lv_if_ne (tgt := 109) hx hb d_Codes_mappedTo_98 (by decide) (fun hc => ?_) (fun hc => ?_)
    · have h := ite_f hc h
      refine lv_iload_n hx hb d_Codes_mappedTo_109 rfl (lv_at hl 1 rfl) ?_
      refine lv_bipush (v := 32) hx hb d_Codes_mappedTo_110 (by decide) ?_
      refine lv_iadd hx hb d_Codes_mappedTo_112 ?_
      refine lv_goto (tgt := 117) hx hb d_Codes_mappedTo_113 (by decide) ?_
      obtain rfl := Option.some.inj h
      exact hret H locs ls 117 d_Codes_mappedTo_117 hE
    · have h := ite_t hc h
      refine lv_iload_n hx hb d_Codes_mappedTo_101 rfl (lv_at hl 2 rfl) ?_
      refine lv_if_ne (tgt := 109) hx hb d_Codes_mappedTo_102 (by decide) (fun hc => ?_) (fun hc => ?_)
      · have h := ite_f hc h
        refine lv_iload_n hx hb d_Codes_mappedTo_109 rfl (lv_at hl 1 rfl) ?_
        refine lv_bipush (v := 32) hx hb d_Codes_mappedTo_110 (by decide) ?_
        refine lv_iadd hx hb d_Codes_mappedTo_112 ?_
        refine lv_goto (tgt := 117) hx hb d_Codes_mappedTo_113 (by decide) ?_
        obtain rfl := Option.some.inj h
        exact hret H locs ls 117 d_Codes_mappedTo_117 hE
      · have h := ite_t hc h
        refine lv_iload_n hx hb d_Codes_mappedTo_105 rfl (lv_at hl 0 rfl) ?_
        refine lv_if_eq (tgt := 116) hx hb d_Codes_mappedTo_106 (by decide) (fun hc => ?_) (fun hc => ?_)
        · have h := ite_t hc h
          refine lv_iload_n hx hb d_Codes_mappedTo_116 rfl (lv_at hl 1 rfl) ?_
          obtain rfl := Option.some.inj h
          exact hret H locs ls 117 d_Codes_mappedTo_117 hE
        · have h := ite_f hc h
          refine lv_iload_n hx hb d_Codes_mappedTo_109 rfl (lv_at hl 1 rfl) ?_
          refine lv_bipush (v := 32) hx hb d_Codes_mappedTo_110 (by decide) ?_
          refine lv_iadd hx hb d_Codes_mappedTo_112 ?_
          refine lv_goto (tgt := 117) hx hb d_Codes_mappedTo_113 (by decide) ?_
          obtain rfl := Option.some.inj h
          exact hret H locs ls 117 d_Codes_mappedTo_117 hE
  have hj67 : ∀ (s0 : Int32) (H : Heap) (locs : List Loc) (ls : Array Slot), hn_E D (TY cI cZ) tt A s H locs [] → lv_has ls 3 [(0, .int a1)] → P_Codes_mappedTo_67 a1 s0 = some o → W p l e rm_Codes_mappedTo s m args below meth c H locs 0 0 Q (F0 m 67 ls [.int s0]) := by
    intro s0 H locs ls hE hl h
    unfold P_Codes_mappedTo_67 at h
    refine lv_istore_n (lv' := [(1, .int s0), (0, .int a1)]) hx hb d_Codes_mappedTo_67 rfl hl (by decide) rfl (fun ls hl => ?_)
    refine lv_iload_n hx hb d_Codes_mappedTo_68 rfl (lv_at hl 1 rfl) ?_
    refine lv_sipush (v := 913) hx hb d_Codes_mappedTo_69 (by decide) ?_
    refine lv_sipush (v := 937) hx hb d_Codes_mappedTo_72 (by decide) ?_
    obtain ⟨x75, hc75, h⟩ := bd_s h
    have hM := (c_Codes_isWithin l D cI cZ tt H.size a1 (913 : Int32) (937 : Int32) x75 hc75)
    refine hn_cz hE (hn_runS (As := [.int a1, .int (913 : Int32), .int (937 : Int32)]) (rest := []) S hE hM cf_Codes_isWithin mw_186 mw_135 ⟨rfl, rfl⟩ ⟨Nat.le_of_ble_eq_true rfl, Nat.le_of_ble_eq_true rfl⟩ [] rfl rfl rfl rfl hl.1 (lv_room (Nat.le_of_ble_eq_true rfl)) d_Codes_mappedTo_75 ⟨Nat.zero_le _, Nat.zero_le _⟩) [] rfl rfl (fun H locs hz75 hE => ?_)
    have hE : hn_E D (TY cI cZ) tt A s H locs [] := hE
    refine lv_if_eq (tgt := 92) hx hb d_Codes_mappedTo_78 (by decide) (fun hc => ?_) (fun hc => ?_)
    · have h := ite_t hc h
      refine lv_iconst (v := 0) hx hb d_Codes_mappedTo_92 (by decide) ?_
      exact hj93 s0 (0 : Int32) H locs ls hE (lv_sub hl [1, 0] rfl) h
    · have h := ite_f hc h
      refine lv_iload_n hx hb d_Codes_mappedTo_81 rfl (lv_at hl 1 rfl) ?_
      refine lv_sipush (v := 930) hx hb d_Codes_mappedTo_82 (by decide) ?_
      refine lv_icmp_eq (tgt := 92) hx hb d_Codes_mappedTo_85 (by decide) (fun hc => ?_) (fun hc => ?_)
      · have h := ite_t hc h
        refine lv_iconst (v := 0) hx hb d_Codes_mappedTo_92 (by decide) ?_
        exact hj93 s0 (0 : Int32) H locs ls hE (lv_sub hl [1, 0] rfl) h
      · have h := ite_f hc h
        refine lv_iconst (v := 1) hx hb d_Codes_mappedTo_88 (by decide) ?_
        refine lv_goto (tgt := 93) hx hb d_Codes_mappedTo_89 (by decide) ?_
        exact hj93 s0 (1 : Int32) H locs ls hE (lv_sub hl [1, 0] rfl) h
  unfold P_Codes_mappedTo at h
  refine lv_iload_n hx hb d_Codes_mappedTo_0 rfl (lv_at hl 0 rfl) ?_
  refine lv_ldc (v := 65281) hx hb hown (S.2.2.2.2 _ mw_184) d_Codes_mappedTo_1 ?_
  refine lv_ldc (v := 65374) hx hb hown (S.2.2.2.2 _ mw_185) d_Codes_mappedTo_3 ?_
  obtain ⟨x5, hc5, h⟩ := bd_s h
  have hM := (c_Codes_isWithin l D cI cZ tt H.size a1 (65281 : Int32) (65374 : Int32) x5 hc5)
  refine hn_cz hE (hn_runS (As := [.int a1, .int (65281 : Int32), .int (65374 : Int32)]) (rest := []) S hE hM cf_Codes_isWithin mw_186 mw_135 ⟨rfl, rfl⟩ ⟨Nat.le_of_ble_eq_true rfl, Nat.le_of_ble_eq_true rfl⟩ [] rfl rfl rfl rfl hl.1 (lv_room (Nat.le_of_ble_eq_true rfl)) d_Codes_mappedTo_5 ⟨Nat.zero_le _, Nat.zero_le _⟩) [] rfl rfl (fun H locs hz5 hE => ?_)
  have hE : hn_E D (TY cI cZ) tt A s H locs [] := hE
  refine lv_if_eq (tgt := 32) hx hb d_Codes_mappedTo_8 (by decide) (fun hc => ?_) (fun hc => ?_)
  · have h := ite_t hc h
    refine lv_iload_n hx hb d_Codes_mappedTo_32 rfl (lv_at hl 0 rfl) ?_
    refine lv_sipush (v := 12290) hx hb d_Codes_mappedTo_33 (by decide) ?_
    refine lv_icmp_ne (tgt := 42) hx hb d_Codes_mappedTo_36 (by decide) (fun hc => ?_) (fun hc => ?_)
    · have h := ite_f hc h
      refine lv_iload_n hx hb d_Codes_mappedTo_42 rfl (lv_at hl 0 rfl) ?_
      refine lv_sipush (v := 192) hx hb d_Codes_mappedTo_43 (by decide) ?_
      refine lv_sipush (v := 222) hx hb d_Codes_mappedTo_46 (by decide) ?_
      obtain ⟨x49, hc49, h⟩ := bd_s h
      have hM := (c_Codes_isWithin l D cI cZ tt H.size a1 (192 : Int32) (222 : Int32) x49 hc49)
      refine hn_cz hE (hn_runS (As := [.int a1, .int (192 : Int32), .int (222 : Int32)]) (rest := []) S hE hM cf_Codes_isWithin mw_186 mw_135 ⟨rfl, rfl⟩ ⟨Nat.le_of_ble_eq_true rfl, Nat.le_of_ble_eq_true rfl⟩ [] rfl rfl rfl rfl hl.1 (lv_room (Nat.le_of_ble_eq_true rfl)) d_Codes_mappedTo_49 ⟨Nat.zero_le _, Nat.zero_le _⟩) [] rfl rfl (fun H locs hz49 hE => ?_)
      have hE : hn_E D (TY cI cZ) tt A s H locs [] := hE
      refine lv_if_eq (tgt := 66) hx hb d_Codes_mappedTo_52 (by decide) (fun hc => ?_) (fun hc => ?_)
      · have h := ite_t hc h
        refine lv_iconst (v := 0) hx hb d_Codes_mappedTo_66 (by decide) ?_
        exact hj67 (0 : Int32) H locs ls hE (lv_sub hl [0] rfl) h
      · have h := ite_f hc h
        refine lv_iload_n hx hb d_Codes_mappedTo_55 rfl (lv_at hl 0 rfl) ?_
        refine lv_sipush (v := 215) hx hb d_Codes_mappedTo_56 (by decide) ?_
        refine lv_icmp_eq (tgt := 66) hx hb d_Codes_mappedTo_59 (by decide) (fun hc => ?_) (fun hc => ?_)
        · have h := ite_t hc h
          refine lv_iconst (v := 0) hx hb d_Codes_mappedTo_66 (by decide) ?_
          exact hj67 (0 : Int32) H locs ls hE (lv_sub hl [0] rfl) h
        · have h := ite_f hc h
          refine lv_iconst (v := 1) hx hb d_Codes_mappedTo_62 (by decide) ?_
          refine lv_goto (tgt := 67) hx hb d_Codes_mappedTo_63 (by decide) ?_
          exact hj67 (1 : Int32) H locs ls hE (lv_sub hl [0] rfl) h
    · have h := ite_t hc h
      refine lv_bipush (v := 46) hx hb d_Codes_mappedTo_39 (by decide) ?_
      obtain rfl := Option.some.inj h
      exact hret H locs ls 41 d_Codes_mappedTo_41 hE
  · have h := ite_f hc h
    refine lv_iload_n hx hb d_Codes_mappedTo_11 rfl (lv_at hl 0 rfl) ?_
    refine lv_ldc (v := 65248) hx hb hown (S.2.2.2.2 _ mw_187) d_Codes_mappedTo_12 ?_
    refine lv_isub hx hb d_Codes_mappedTo_14 ?_
    refine lv_istore_n (lv' := [(1, .int (a1 - (65248 : Int32))), (0, .int a1)]) hx hb d_Codes_mappedTo_15 rfl hl (by decide) rfl (fun ls hl => ?_)
    refine lv_iload_n hx hb d_Codes_mappedTo_16 rfl (lv_at hl 0 rfl) ?_
    obtain ⟨x17, hc17, h⟩ := bd_s h
    have hM := (c_Codes_isCapital l D cI cZ tt H.size (a1 - (65248 : Int32)) x17 hc17)
    refine hn_cz hE (hn_runS (As := [.int (a1 - (65248 : Int32))]) (rest := []) S hE hM cf_Codes_isCapital mw_188 mw_189 ⟨rfl, rfl⟩ ⟨Nat.le_of_ble_eq_true rfl, Nat.le_of_ble_eq_true rfl⟩ [] rfl rfl rfl rfl hl.1 (lv_room (Nat.le_of_ble_eq_true rfl)) d_Codes_mappedTo_17 ⟨Nat.zero_le _, Nat.zero_le _⟩) [] rfl rfl (fun H locs hz17 hE => ?_)
    have hE : hn_E D (TY cI cZ) tt A s H locs [] := hE
    refine lv_if_eq (tgt := 30) hx hb d_Codes_mappedTo_20 (by decide) (fun hc => ?_) (fun hc => ?_)
    · have h := ite_t hc h
      refine lv_iload_n hx hb d_Codes_mappedTo_30 rfl (lv_at hl 0 rfl) ?_
      obtain rfl := Option.some.inj h
      exact hret H locs ls 31 d_Codes_mappedTo_31 hE
    · have h := ite_f hc h
      refine lv_iload_n hx hb d_Codes_mappedTo_23 rfl (lv_at hl 0 rfl) ?_
      refine lv_bipush (v := 32) hx hb d_Codes_mappedTo_24 (by decide) ?_
      refine lv_iadd hx hb d_Codes_mappedTo_26 ?_
      refine lv_goto (tgt := 31) hx hb d_Codes_mappedTo_27 (by decide) ?_
      obtain rfl := Option.some.inj h
      exact hret H locs ls 31 d_Codes_mappedTo_31 hE
abbrev rm_Codes_isInGoodRanges : Room := { frames := 0, cells := 0, slots := 0, locals := 0 }
theorem cf_Codes_isInGoodRanges : hn_CF y_Codes_isInGoodRanges b_Codes_isInGoodRanges 2 (some .boolean) 1 := ⟨mw_196, mw_8, by decide, by decide, by decide +kernel⟩
set_option maxHeartbeats 4000000 in
set_option maxRecDepth 100000 in
theorem c_Codes_isInGoodRanges (l : Launch) (D : va_G) (cI cZ : ClassId) (tt : Nat → Nat) (sz : Nat) (a1 : Int32) (o : Int32) (h : P_Codes_isInGoodRanges a1 = some o) : Met l y_Codes_isInGoodRanges (hn_w y_Codes_isInGoodRanges b_Codes_isInGoodRanges 2 (some .boolean)) rm_Codes_isInGoodRanges (hn_Pc D (TY cI cZ) tt [.int a1] sz []) (hn_Qz D [] sz [] o) 0 0 (va_A [] sz) := by
  refine hn_ofWz (own := R_Codes) (by decide) rfl (Nat.le_of_ble_eq_true rfl) ?_
  intro p e s m args below meth c A H locs ls Q S hE hl hret
  have hx := S.1
  have hb := S.2.1
  have hown := S.2.2.2.1
  have hl : lv_has ls 2 [(0, .int a1)] := hl
  have hL2 : ∀ (kf : Nat) (v1 : Int32) (H : Heap) (locs : List Loc) (ls : Array Slot), hn_E D (TY cI cZ) tt A s H locs [] → lv_has ls 2 [(0, .int a1), (1, .int v1)] → fl1 (P_Codes_isInGoodRanges_2 a1) kf v1 = some o → W p l e rm_Codes_isInGoodRanges s m args below meth c H locs 0 0 Q (F0 m 2 ls []) := by
    intro kf
    induction kf with
    | zero => intro v1 H locs ls hE hl h; exact no_s h
    | succ kf ih =>
      intro v1 H locs ls hE hl h
      have h : P_Codes_isInGoodRanges_2 a1 (fl1 (P_Codes_isInGoodRanges_2 a1) kf) v1 = some o := h
      generalize fl1 (P_Codes_isInGoodRanges_2 a1) kf = k2 at ih h
      have hk2 := ih
      unfold P_Codes_isInGoodRanges_2 at h
      refine lv_iload_n hx hb d_Codes_isInGoodRanges_2 rfl (lv_at hl 1 rfl) ?_
      refine lv_iconst (v := 1) hx hb d_Codes_isInGoodRanges_3 (by decide) ?_
      refine lv_iadd hx hb d_Codes_isInGoodRanges_4 ?_
      refine hn_gets S hE st_z0 mw_197 d_Codes_isInGoodRanges_5 ?_
      refine hn_tlen S hE st_t0 (v := 36) (by decide) d_Codes_isInGoodRanges_8 ?_
      refine lv_icmp_ge (tgt := 40) hx hb d_Codes_isInGoodRanges_9 (by decide) (fun hc => ?_) (fun hc => ?_)
      · have h := ite_t hc h
        refine lv_iconst (v := 0) hx hb d_Codes_isInGoodRanges_40 (by decide) ?_
        obtain rfl := Option.some.inj h
        exact hret H locs ls 41 d_Codes_isInGoodRanges_41 narrow_b0 hE
      · have h := ite_f hc h
        refine lv_iload_n hx hb d_Codes_isInGoodRanges_12 rfl (lv_at hl 0 rfl) ?_
        refine hn_gets S hE st_z0 mw_197 d_Codes_isInGoodRanges_13 ?_
        refine lv_iload_n hx hb d_Codes_isInGoodRanges_16 rfl (lv_at hl 1 rfl) ?_
        obtain ⟨hi17, h⟩ := gi_s h
        refine hn_ti S hE st_t0 hi17 rfl d_Codes_isInGoodRanges_17 ?_
        refine lv_icmp_lt (tgt := 34) hx hb d_Codes_isInGoodRanges_18 (by decide) (fun hc => ?_) (fun hc => ?_)
        · have h := ite_t hc h
          refine lv_iinc (v := (v1 + (2 : Int32))) (lv' := [(1, .int (v1 + (2 : Int32))), (0, .int a1)]) hx hb d_Codes_isInGoodRanges_34 hl (k := 1) rfl rfl (by decide) rfl (fun ls hl => ?_)
          refine lv_goto (tgt := 2) hx hb d_Codes_isInGoodRanges_37 (by decide) ?_
          exact hk2 (v1 + (2 : Int32)) H locs ls hE (lv_sub hl [1, 0] rfl) h
        · have h := ite_f hc h
          refine lv_iload_n hx hb d_Codes_isInGoodRanges_21 rfl (lv_at hl 0 rfl) ?_
          refine hn_gets S hE st_z0 mw_197 d_Codes_isInGoodRanges_22 ?_
          refine lv_iload_n hx hb d_Codes_isInGoodRanges_25 rfl (lv_at hl 1 rfl) ?_
          refine lv_iconst (v := 1) hx hb d_Codes_isInGoodRanges_26 (by decide) ?_
          refine lv_iadd hx hb d_Codes_isInGoodRanges_27 ?_
          obtain ⟨hi28, h⟩ := gi_s h
          refine hn_ti S hE st_t0 hi28 rfl d_Codes_isInGoodRanges_28 ?_
          refine lv_icmp_gt (tgt := 34) hx hb d_Codes_isInGoodRanges_29 (by decide) (fun hc => ?_) (fun hc => ?_)
          · have h := ite_t hc h
            refine lv_iinc (v := (v1 + (2 : Int32))) (lv' := [(1, .int (v1 + (2 : Int32))), (0, .int a1)]) hx hb d_Codes_isInGoodRanges_34 hl (k := 1) rfl rfl (by decide) rfl (fun ls hl => ?_)
            refine lv_goto (tgt := 2) hx hb d_Codes_isInGoodRanges_37 (by decide) ?_
            exact hk2 (v1 + (2 : Int32)) H locs ls hE (lv_sub hl [1, 0] rfl) h
          · have h := ite_f hc h
            refine lv_iconst (v := 1) hx hb d_Codes_isInGoodRanges_32 (by decide) ?_
            obtain rfl := Option.some.inj h
            exact hret H locs ls 33 d_Codes_isInGoodRanges_33 narrow_b1 hE
  unfold P_Codes_isInGoodRanges at h
  refine lv_iconst (v := 0) hx hb d_Codes_isInGoodRanges_0 (by decide) ?_
  refine lv_istore_n (lv' := [(1, .int (0 : Int32)), (0, .int a1)]) hx hb d_Codes_isInGoodRanges_1 rfl hl (by decide) rfl (fun ls hl => ?_)
  exact hL2 fu (0 : Int32) H locs ls hE (lv_sub hl [1, 0] rfl) h
abbrev rm_Codes_isPlain : Room := { frames := 1, cells := 0, slots := 0, locals := 22 }
theorem cf_Codes_isPlain : hn_CF y_Codes_isPlain b_Codes_isPlain 1 (some .boolean) 1 := ⟨mw_201, mw_8, by decide, by decide, by decide +kernel⟩
set_option maxHeartbeats 4000000 in
set_option maxRecDepth 100000 in
theorem c_Codes_isPlain (l : Launch) (D : va_G) (cI cZ : ClassId) (tt : Nat → Nat) (sz : Nat) (a1 : Int32) (o : Int32) (h : P_Codes_isPlain a1 = some o) : Met l y_Codes_isPlain (hn_w y_Codes_isPlain b_Codes_isPlain 1 (some .boolean)) rm_Codes_isPlain (hn_Pc D (TY cI cZ) tt [.int a1] sz []) (hn_Qz D [] sz [] o) 0 0 (va_A [] sz) := by
  refine hn_ofWz (own := R_Codes) (by decide) rfl (Nat.le_of_ble_eq_true rfl) ?_
  intro p e s m args below meth c A H locs ls Q S hE hl hret
  have hx := S.1
  have hb := S.2.1
  have hown := S.2.2.2.1
  have hl : lv_has ls 1 [(0, .int a1)] := hl
  unfold P_Codes_isPlain at h
  refine lv_iload_n hx hb d_Codes_isPlain_0 rfl (lv_at hl 0 rfl) ?_
  refine lv_iconst (v := 0) hx hb d_Codes_isPlain_1 (by decide) ?_
  refine lv_bipush (v := 127) hx hb d_Codes_isPlain_2 (by decide) ?_
  obtain ⟨x4, hc4, h⟩ := bd_s h
  have hM := (c_Codes_isWithin l D cI cZ tt H.size a1 (0 : Int32) (127 : Int32) x4 hc4)
  refine hn_cz hE (hn_runS (As := [.int a1, .int (0 : Int32), .int (127 : Int32)]) (rest := []) S hE hM cf_Codes_isWithin mw_186 mw_135 ⟨rfl, rfl⟩ ⟨Nat.le_of_ble_eq_true rfl, Nat.le_of_ble_eq_true rfl⟩ [] rfl rfl rfl rfl hl.1 (lv_room (Nat.le_of_ble_eq_true rfl)) d_Codes_isPlain_4 ⟨Nat.zero_le _, Nat.zero_le _⟩) [] rfl rfl (fun H locs hz4 hE => ?_)
  have hE : hn_E D (TY cI cZ) tt A s H locs [] := hE
  refine lv_if_eq (tgt := 28) hx hb d_Codes_isPlain_7 (by decide) (fun hc => ?_) (fun hc => ?_)
  · have h := ite_t hc h
    refine lv_iconst (v := 0) hx hb d_Codes_isPlain_28 (by decide) ?_
    obtain rfl := Option.some.inj h
    exact hret H locs ls 29 d_Codes_isPlain_29 narrow_b0 hE
  · have h := ite_f hc h
    refine lv_iload_n hx hb d_Codes_isPlain_10 rfl (lv_at hl 0 rfl) ?_
    obtain ⟨x11, hc11, h⟩ := bd_s h
    have hM := (c_Codes_isCapital l D cI cZ tt H.size a1 x11 hc11)
    refine hn_cz hE (hn_runS (As := [.int a1]) (rest := []) S hE hM cf_Codes_isCapital mw_188 mw_189 ⟨rfl, rfl⟩ ⟨Nat.le_of_ble_eq_true rfl, Nat.le_of_ble_eq_true rfl⟩ [] rfl rfl rfl rfl hl.1 (lv_room (Nat.le_of_ble_eq_true rfl)) d_Codes_isPlain_11 ⟨Nat.zero_le _, Nat.zero_le _⟩) [] rfl rfl (fun H locs hz11 hE => ?_)
    have hE : hn_E D (TY cI cZ) tt A s H locs [] := hE
    refine lv_if_ne (tgt := 28) hx hb d_Codes_isPlain_14 (by decide) (fun hc => ?_) (fun hc => ?_)
    · have h := ite_f hc h
      refine lv_iconst (v := 0) hx hb d_Codes_isPlain_28 (by decide) ?_
      obtain rfl := Option.some.inj h
      exact hret H locs ls 29 d_Codes_isPlain_29 narrow_b0 hE
    · have h := ite_t hc h
      refine lv_iload_n hx hb d_Codes_isPlain_17 rfl (lv_at hl 0 rfl) ?_
      obtain ⟨x18, hc18, h⟩ := bd_s h
      have hM := (c_Codes_isInGoodRanges l D cI cZ tt H.size a1 x18 hc18)
      refine hn_cz hE (hn_runS (As := [.int a1]) (rest := []) S hE hM cf_Codes_isInGoodRanges mw_194 mw_195 ⟨rfl, rfl⟩ ⟨Nat.le_of_ble_eq_true rfl, Nat.le_of_ble_eq_true rfl⟩ [] rfl rfl rfl rfl hl.1 (lv_room (Nat.le_of_ble_eq_true rfl)) d_Codes_isPlain_18 ⟨Nat.zero_le _, Nat.zero_le _⟩) [] rfl rfl (fun H locs hz18 hE => ?_)
      have hE : hn_E D (TY cI cZ) tt A s H locs [] := hE
      refine lv_if_ne (tgt := 28) hx hb d_Codes_isPlain_21 (by decide) (fun hc => ?_) (fun hc => ?_)
      · have h := ite_f hc h
        refine lv_iconst (v := 0) hx hb d_Codes_isPlain_28 (by decide) ?_
        obtain rfl := Option.some.inj h
        exact hret H locs ls 29 d_Codes_isPlain_29 narrow_b0 hE
      · have h := ite_t hc h
        refine lv_iconst (v := 1) hx hb d_Codes_isPlain_24 (by decide) ?_
        refine lv_goto (tgt := 29) hx hb d_Codes_isPlain_25 (by decide) ?_
        obtain rfl := Option.some.inj h
        exact hret H locs ls 29 d_Codes_isPlain_29 narrow_b1 hE
abbrev rm_Codes_isGood : Room := { frames := 2, cells := 0, slots := 0, locals := 42 }
theorem cf_Codes_isGood : hn_CF y_Codes_isGood b_Codes_isGood 3 (some .boolean) 3 := ⟨mw_193, mw_8, by decide, by decide, by decide +kernel⟩
set_option maxHeartbeats 4000000 in
set_option maxRecDepth 100000 in
theorem c_Codes_isGood (l : Launch) (D : va_G) (cI cZ : ClassId) (tt : Nat → Nat) (sz : Nat) (a1 : Int32) (a2 : Int32) (a3 : Int32) (o : Int32) (h : P_Codes_isGood a1 a2 a3 = some o) : Met l y_Codes_isGood (hn_w y_Codes_isGood b_Codes_isGood 3 (some .boolean)) rm_Codes_isGood (hn_Pc D (TY cI cZ) tt [.int a1, .int a2, .int a3] sz []) (hn_Qz D [] sz [] o) 0 0 (va_A [] sz) := by
  refine hn_ofWz (own := R_Codes) (by decide) rfl (Nat.le_of_ble_eq_true rfl) ?_
  intro p e s m args below meth c A H locs ls Q S hE hl hret
  have hx := S.1
  have hb := S.2.1
  have hown := S.2.2.2.1
  have hl : lv_has ls 3 [(0, .int a1), (1, .int a2), (2, .int a3)] := hl
  have hj18 : ∀ (H : Heap) (locs : List Loc) (ls : Array Slot), hn_E D (TY cI cZ) tt A s H locs [] → lv_has ls 3 [(0, .int a1), (2, .int a3)] → P_Codes_isGood_18 a1 a3 = some o → W p l e rm_Codes_isGood s m args below meth c H locs 0 0 Q (F0 m 18 ls []) := by
    intro H locs ls hE hl h
    unfold P_Codes_isGood_18 at h
    refine lv_iload_n hx hb d_Codes_isGood_18 rfl (lv_at hl 1 rfl) ?_
    refine lv_if_ne (tgt := 33) hx hb d_Codes_isGood_19 (by decide) (fun hc => ?_) (fun hc => ?_)
    · have h := ite_f hc h
      refine lv_iconst (v := 0) hx hb d_Codes_isGood_33 (by decide) ?_
      obtain rfl := Option.some.inj h
      exact hret H locs ls 34 d_Codes_isGood_34 narrow_b0 hE
    · have h := ite_t hc h
      refine lv_iload_n hx hb d_Codes_isGood_22 rfl (lv_at hl 0 rfl) ?_
      obtain ⟨x23, hc23, h⟩ := bd_s h
      have hM := (c_Codes_isOdd l D cI cZ tt H.size a1 x23 hc23)
      refine hn_cz hE (hn_runS (As := [.int a1]) (rest := []) S hE hM cf_Codes_isOdd mw_202 mw_175 ⟨rfl, rfl⟩ ⟨Nat.le_of_ble_eq_true rfl, Nat.le_of_ble_eq_true rfl⟩ [] rfl rfl rfl rfl hl.1 (lv_room (Nat.le_of_ble_eq_true rfl)) d_Codes_isGood_23 ⟨Nat.zero_le _, Nat.zero_le _⟩) [] rfl rfl (fun H locs hz23 hE => ?_)
      have hE : hn_E D (TY cI cZ) tt A s H locs [] := hE
      refine lv_if_eq (tgt := 33) hx hb d_Codes_isGood_26 (by decide) (fun hc => ?_) (fun hc => ?_)
      · have h := ite_t hc h
        refine lv_iconst (v := 0) hx hb d_Codes_isGood_33 (by decide) ?_
        obtain rfl := Option.some.inj h
        exact hret H locs ls 34 d_Codes_isGood_34 narrow_b0 hE
      · have h := ite_f hc h
        refine lv_iconst (v := 1) hx hb d_Codes_isGood_29 (by decide) ?_
        refine lv_goto (tgt := 34) hx hb d_Codes_isGood_30 (by decide) ?_
        obtain rfl := Option.some.inj h
        exact hret H locs ls 34 d_Codes_isGood_34 narrow_b1 hE
  unfold P_Codes_isGood at h
  refine lv_iload_n hx hb d_Codes_isGood_0 rfl (lv_at hl 0 rfl) ?_
  obtain ⟨x1, hc1, h⟩ := bd_s h
  have hM := (c_Codes_isInGoodRanges l D cI cZ tt H.size a1 x1 hc1)
  refine hn_cz hE (hn_runS (As := [.int a1]) (rest := []) S hE hM cf_Codes_isInGoodRanges mw_194 mw_195 ⟨rfl, rfl⟩ ⟨Nat.le_of_ble_eq_true rfl, Nat.le_of_ble_eq_true rfl⟩ [] rfl rfl rfl rfl hl.1 (lv_room (Nat.le_of_ble_eq_true rfl)) d_Codes_isGood_1 ⟨Nat.zero_le _, Nat.zero_le _⟩) [] rfl rfl (fun H locs hz1 hE => ?_)
  have hE : hn_E D (TY cI cZ) tt A s H locs [] := hE
  refine lv_if_ne (tgt := 29) hx hb d_Codes_isGood_4 (by decide) (fun hc => ?_) (fun hc => ?_)
  · have h := ite_f hc h
    refine lv_iconst (v := 1) hx hb d_Codes_isGood_29 (by decide) ?_
    refine lv_goto (tgt := 34) hx hb d_Codes_isGood_30 (by decide) ?_
    obtain rfl := Option.some.inj h
    exact hret H locs ls 34 d_Codes_isGood_34 narrow_b1 hE
  · have h := ite_t hc h
    refine lv_iload_n hx hb d_Codes_isGood_7 rfl (lv_at hl 1 rfl) ?_
    refine lv_if_ne (tgt := 18) hx hb d_Codes_isGood_8 (by decide) (fun hc => ?_) (fun hc => ?_)
    · have h := ite_f hc h
      exact hj18 H locs ls hE (lv_sub hl [0, 2] rfl) h
    · have h := ite_t hc h
      refine lv_iload_n hx hb d_Codes_isGood_11 rfl (lv_at hl 0 rfl) ?_
      obtain ⟨x12, hc12, h⟩ := bd_s h
      have hM := (c_Codes_isPlain l D cI cZ tt H.size a1 x12 hc12)
      refine hn_cz hE (hn_runS (As := [.int a1]) (rest := []) S hE hM cf_Codes_isPlain mw_199 mw_200 ⟨rfl, rfl⟩ ⟨Nat.le_of_ble_eq_true rfl, Nat.le_of_ble_eq_true rfl⟩ [] rfl rfl rfl rfl hl.1 (lv_room (Nat.le_of_ble_eq_true rfl)) d_Codes_isGood_12 ⟨Nat.zero_le _, Nat.zero_le _⟩) [] rfl rfl (fun H locs hz12 hE => ?_)
      have hE : hn_E D (TY cI cZ) tt A s H locs [] := hE
      refine lv_if_ne (tgt := 29) hx hb d_Codes_isGood_15 (by decide) (fun hc => ?_) (fun hc => ?_)
      · have h := ite_f hc h
        refine lv_iconst (v := 1) hx hb d_Codes_isGood_29 (by decide) ?_
        refine lv_goto (tgt := 34) hx hb d_Codes_isGood_30 (by decide) ?_
        obtain rfl := Option.some.inj h
        exact hret H locs ls 34 d_Codes_isGood_34 narrow_b1 hE
      · have h := ite_t hc h
        exact hj18 H locs ls hE (lv_sub hl [0, 2] rfl) h
abbrev rm_Codes_order : Room := { frames := 0, cells := 0, slots := 0, locals := 0 }
theorem cf_Codes_order : hn_CF y_Codes_order b_Codes_order 1 (some .int) 1 := ⟨mw_233, mw_8, by decide, by decide, by decide +kernel⟩
set_option maxHeartbeats 4000000 in
set_option maxRecDepth 100000 in
theorem c_Codes_order (l : Launch) (D : va_G) (cI cZ : ClassId) (tt : Nat → Nat) (sz : Nat) (a1 : Int32) (o : Int32) (h : P_Codes_order a1 = some o) : Met l y_Codes_order (hn_w y_Codes_order b_Codes_order 1 (some .int)) rm_Codes_order (hn_Pc D (TY cI cZ) tt [.int a1] sz []) (hn_Qi D [] sz [] o) 0 0 (va_A [] sz) := by
  refine hn_ofWi (own := R_Codes) (by decide) rfl (Nat.le_of_ble_eq_true rfl) ?_
  intro p e s m args below meth c A H locs ls Q S hE hl hret
  have hx := S.1
  have hb := S.2.1
  have hown := S.2.2.2.1
  have hl : lv_has ls 1 [(0, .int a1)] := hl
  unfold P_Codes_order at h
  refine lv_iload_n hx hb d_Codes_order_0 rfl (lv_at hl 0 rfl) ?_
  by_cases hs768 : a1 = (768 : Int32)
  · have h := ite_t hs768 h
    refine lv_lookup (tgt := 60) (off := 59) hx hb d_Codes_order_1 (by decide) (by rw [hs768]; decide) (by decide) ?_
    refine lv_sipush (v := 230) hx hb d_Codes_order_60 (by decide) ?_
    obtain rfl := Option.some.inj h
    exact hret H locs ls 63 d_Codes_order_63 hE
  have h := ite_f hs768 h
  by_cases hs769 : a1 = (769 : Int32)
  · have h := ite_t hs769 h
    refine lv_lookup (tgt := 60) (off := 59) hx hb d_Codes_order_1 (by decide) (by rw [hs769]; decide) (by decide) ?_
    refine lv_sipush (v := 230) hx hb d_Codes_order_60 (by decide) ?_
    obtain rfl := Option.some.inj h
    exact hret H locs ls 63 d_Codes_order_63 hE
  have h := ite_f hs769 h
  by_cases hs776 : a1 = (776 : Int32)
  · have h := ite_t hs776 h
    refine lv_lookup (tgt := 60) (off := 59) hx hb d_Codes_order_1 (by decide) (by rw [hs776]; decide) (by decide) ?_
    refine lv_sipush (v := 230) hx hb d_Codes_order_60 (by decide) ?_
    obtain rfl := Option.some.inj h
    exact hret H locs ls 63 d_Codes_order_63 hE
  have h := ite_f hs776 h
  by_cases hs807 : a1 = (807 : Int32)
  · have h := ite_t hs807 h
    refine lv_lookup (tgt := 64) (off := 63) hx hb d_Codes_order_1 (by decide) (by rw [hs807]; decide) (by decide) ?_
    refine lv_sipush (v := 202) hx hb d_Codes_order_64 (by decide) ?_
    obtain rfl := Option.some.inj h
    exact hret H locs ls 67 d_Codes_order_67 hE
  have h := ite_f hs807 h
  by_cases hs1614 : a1 = (1614 : Int32)
  · have h := ite_t hs1614 h
    refine lv_lookup (tgt := 68) (off := 67) hx hb d_Codes_order_1 (by decide) (by rw [hs1614]; decide) (by decide) ?_
    refine lv_bipush (v := 30) hx hb d_Codes_order_68 (by decide) ?_
    obtain rfl := Option.some.inj h
    exact hret H locs ls 70 d_Codes_order_70 hE
  have h := ite_f hs1614 h
  by_cases hs2381 : a1 = (2381 : Int32)
  · have h := ite_t hs2381 h
    refine lv_lookup (tgt := 71) (off := 70) hx hb d_Codes_order_1 (by decide) (by rw [hs2381]; decide) (by decide) ?_
    refine lv_bipush (v := 9) hx hb d_Codes_order_71 (by decide) ?_
    obtain rfl := Option.some.inj h
    exact hret H locs ls 73 d_Codes_order_73 hE
  have h := ite_f hs2381 h
  refine lv_lookup (tgt := 74) (off := 73) hx hb d_Codes_order_1 (by decide) (by rw [lv_osw hs768 (by decide)]; rw [lv_osw hs769 (by decide)]; rw [lv_osw hs776 (by decide)]; rw [lv_osw hs807 (by decide)]; rw [lv_osw hs1614 (by decide)]; rw [lv_osw hs2381 (by decide)]; rfl) (by decide) ?_
  refine lv_iconst (v := 0) hx hb d_Codes_order_74 (by decide) ?_
  obtain rfl := Option.some.inj h
  exact hret H locs ls 75 d_Codes_order_75 hE
abbrev rm_Math_min : Room := { frames := 0, cells := 0, slots := 0, locals := 0 }
theorem cf_Math_min : hn_CF y_Math_min b_Math_min 2 (some .int) 2 := ⟨mw_305, mw_9, by decide, by decide, by decide +kernel⟩
set_option maxHeartbeats 4000000 in
set_option maxRecDepth 100000 in
theorem c_Math_min (l : Launch) (D : va_G) (cI cZ : ClassId) (tt : Nat → Nat) (sz : Nat) (a1 : Int32) (a2 : Int32) (o : Int32) (h : P_Math_min a1 a2 = some o) : Met l y_Math_min (hn_w y_Math_min b_Math_min 2 (some .int)) rm_Math_min (hn_Pc D (TY cI cZ) tt [.int a1, .int a2] sz []) (hn_Qi D [] sz [] o) 0 0 (va_A [] sz) := by
  refine hn_ofWi (own := R_Math) (by decide) rfl (Nat.le_of_ble_eq_true rfl) ?_
  intro p e s m args below meth c A H locs ls Q S hE hl hret
  have hx := S.1
  have hb := S.2.1
  have hown := S.2.2.2.1
  have hl : lv_has ls 2 [(0, .int a1), (1, .int a2)] := hl
  unfold P_Math_min at h
  refine lv_iload_n hx hb d_Math_min_0 rfl (lv_at hl 0 rfl) ?_
  refine lv_iload_n hx hb d_Math_min_1 rfl (lv_at hl 1 rfl) ?_
  refine lv_icmp_gt (tgt := 9) hx hb d_Math_min_2 (by decide) (fun hc => ?_) (fun hc => ?_)
  · have h := ite_t hc h
    refine lv_iload_n hx hb d_Math_min_9 rfl (lv_at hl 1 rfl) ?_
    obtain rfl := Option.some.inj h
    exact hret H locs ls 10 d_Math_min_10 hE
  · have h := ite_f hc h
    refine lv_iload_n hx hb d_Math_min_5 rfl (lv_at hl 0 rfl) ?_
    refine lv_goto (tgt := 10) hx hb d_Math_min_6 (by decide) ?_
    obtain rfl := Option.some.inj h
    exact hret H locs ls 10 d_Math_min_10 hE
abbrev rm_Math_max : Room := { frames := 0, cells := 0, slots := 0, locals := 0 }
theorem cf_Math_max : hn_CF y_Math_max b_Math_max 2 (some .int) 2 := ⟨mw_308, mw_9, by decide, by decide, by decide +kernel⟩
set_option maxHeartbeats 4000000 in
set_option maxRecDepth 100000 in
theorem c_Math_max (l : Launch) (D : va_G) (cI cZ : ClassId) (tt : Nat → Nat) (sz : Nat) (a1 : Int32) (a2 : Int32) (o : Int32) (h : P_Math_max a1 a2 = some o) : Met l y_Math_max (hn_w y_Math_max b_Math_max 2 (some .int)) rm_Math_max (hn_Pc D (TY cI cZ) tt [.int a1, .int a2] sz []) (hn_Qi D [] sz [] o) 0 0 (va_A [] sz) := by
  refine hn_ofWi (own := R_Math) (by decide) rfl (Nat.le_of_ble_eq_true rfl) ?_
  intro p e s m args below meth c A H locs ls Q S hE hl hret
  have hx := S.1
  have hb := S.2.1
  have hown := S.2.2.2.1
  have hl : lv_has ls 2 [(0, .int a1), (1, .int a2)] := hl
  unfold P_Math_max at h
  refine lv_iload_n hx hb d_Math_max_0 rfl (lv_at hl 0 rfl) ?_
  refine lv_iload_n hx hb d_Math_max_1 rfl (lv_at hl 1 rfl) ?_
  refine lv_icmp_lt (tgt := 9) hx hb d_Math_max_2 (by decide) (fun hc => ?_) (fun hc => ?_)
  · have h := ite_t hc h
    refine lv_iload_n hx hb d_Math_max_9 rfl (lv_at hl 1 rfl) ?_
    obtain rfl := Option.some.inj h
    exact hret H locs ls 10 d_Math_max_10 hE
  · have h := ite_f hc h
    refine lv_iload_n hx hb d_Math_max_5 rfl (lv_at hl 0 rfl) ?_
    refine lv_goto (tgt := 10) hx hb d_Math_max_6 (by decide) ?_
    obtain rfl := Option.some.inj h
    exact hret H locs ls 10 d_Math_max_10 hE
abbrev rm_Codes_isMark : Room := { frames := 1, cells := 0, slots := 0, locals := 20 }
theorem cf_Codes_isMark : hn_CF y_Codes_isMark b_Codes_isMark 1 (some .boolean) 1 := ⟨mw_341, mw_8, by decide, by decide, by decide +kernel⟩
set_option maxHeartbeats 4000000 in
set_option maxRecDepth 100000 in
theorem c_Codes_isMark (l : Launch) (D : va_G) (cI cZ : ClassId) (tt : Nat → Nat) (sz : Nat) (a1 : Int32) (o : Int32) (h : P_Codes_isMark a1 = some o) : Met l y_Codes_isMark (hn_w y_Codes_isMark b_Codes_isMark 1 (some .boolean)) rm_Codes_isMark (hn_Pc D (TY cI cZ) tt [.int a1] sz []) (hn_Qz D [] sz [] o) 0 0 (va_A [] sz) := by
  refine hn_ofWz (own := R_Codes) (by decide) rfl (Nat.le_of_ble_eq_true rfl) ?_
  intro p e s m args below meth c A H locs ls Q S hE hl hret
  have hx := S.1
  have hb := S.2.1
  have hown := S.2.2.2.1
  have hl : lv_has ls 1 [(0, .int a1)] := hl
  unfold P_Codes_isMark at h
  refine lv_iload_n hx hb d_Codes_isMark_0 rfl (lv_at hl 0 rfl) ?_
  obtain ⟨x1, hc1, h⟩ := bd_s h
  have hM := (c_Codes_order l D cI cZ tt H.size a1 x1 hc1)
  refine hn_ci hE (hn_runS (As := [.int a1]) (rest := []) S hE hM cf_Codes_order mw_342 mw_232 ⟨rfl, rfl⟩ ⟨Nat.le_of_ble_eq_true rfl, Nat.le_of_ble_eq_true rfl⟩ [] rfl rfl rfl rfl hl.1 (lv_room (Nat.le_of_ble_eq_true rfl)) d_Codes_isMark_1 ⟨Nat.zero_le _, Nat.zero_le _⟩) [] rfl rfl (fun H locs hE => ?_)
  have hE : hn_E D (TY cI cZ) tt A s H locs [] := hE
  refine lv_if_le (tgt := 11) hx hb d_Codes_isMark_4 (by decide) (fun hc => ?_) (fun hc => ?_)
  · have h := ite_t hc h
    refine lv_iconst (v := 0) hx hb d_Codes_isMark_11 (by decide) ?_
    obtain rfl := Option.some.inj h
    exact hret H locs ls 12 d_Codes_isMark_12 narrow_b0 hE
  · have h := ite_f hc h
    refine lv_iconst (v := 1) hx hb d_Codes_isMark_7 (by decide) ?_
    refine lv_goto (tgt := 12) hx hb d_Codes_isMark_8 (by decide) ?_
    obtain rfl := Option.some.inj h
    exact hret H locs ls 12 d_Codes_isMark_12 narrow_b1 hE
abbrev rm_Codes_asciiDirection : Room := { frames := 1, cells := 0, slots := 0, locals := 22 }
theorem cf_Codes_asciiDirection : hn_CF y_Codes_asciiDirection b_Codes_asciiDirection 1 (some .int) 1 := ⟨mw_345, mw_8, by decide, by decide, by decide +kernel⟩
set_option maxHeartbeats 4000000 in
set_option maxRecDepth 100000 in
theorem c_Codes_asciiDirection (l : Launch) (D : va_G) (cI cZ : ClassId) (tt : Nat → Nat) (sz : Nat) (a1 : Int32) (o : Int32) (h : P_Codes_asciiDirection a1 = some o) : Met l y_Codes_asciiDirection (hn_w y_Codes_asciiDirection b_Codes_asciiDirection 1 (some .int)) rm_Codes_asciiDirection (hn_Pc D (TY cI cZ) tt [.int a1] sz []) (hn_Qi D [] sz [] o) 0 0 (va_A [] sz) := by
  refine hn_ofWi (own := R_Codes) (by decide) rfl (Nat.le_of_ble_eq_true rfl) ?_
  intro p e s m args below meth c A H locs ls Q S hE hl hret
  have hx := S.1
  have hb := S.2.1
  have hown := S.2.2.2.1
  have hl : lv_has ls 1 [(0, .int a1)] := hl
  unfold P_Codes_asciiDirection at h
  refine lv_iload_n hx hb d_Codes_asciiDirection_0 rfl (lv_at hl 0 rfl) ?_
  refine lv_bipush (v := 48) hx hb d_Codes_asciiDirection_1 (by decide) ?_
  refine lv_bipush (v := 57) hx hb d_Codes_asciiDirection_3 (by decide) ?_
  obtain ⟨x5, hc5, h⟩ := bd_s h
  have hM := (c_Codes_isWithin l D cI cZ tt H.size a1 (48 : Int32) (57 : Int32) x5 hc5)
  refine hn_cz hE (hn_runS (As := [.int a1, .int (48 : Int32), .int (57 : Int32)]) (rest := []) S hE hM cf_Codes_isWithin mw_186 mw_135 ⟨rfl, rfl⟩ ⟨Nat.le_of_ble_eq_true rfl, Nat.le_of_ble_eq_true rfl⟩ [] rfl rfl rfl rfl hl.1 (lv_room (Nat.le_of_ble_eq_true rfl)) d_Codes_asciiDirection_5 ⟨Nat.zero_le _, Nat.zero_le _⟩) [] rfl rfl (fun H locs hz5 hE => ?_)
  have hE : hn_E D (TY cI cZ) tt A s H locs [] := hE
  refine lv_if_eq (tgt := 14) hx hb d_Codes_asciiDirection_8 (by decide) (fun hc => ?_) (fun hc => ?_)
  · have h := ite_t hc h
    refine lv_iload_n hx hb d_Codes_asciiDirection_14 rfl (lv_at hl 0 rfl) ?_
    refine lv_bipush (v := 45) hx hb d_Codes_asciiDirection_15 (by decide) ?_
    refine lv_icmp_ne (tgt := 23) hx hb d_Codes_asciiDirection_17 (by decide) (fun hc => ?_) (fun hc => ?_)
    · have h := ite_f hc h
      refine lv_iload_n hx hb d_Codes_asciiDirection_23 rfl (lv_at hl 0 rfl) ?_
      obtain ⟨x24, hc24, h⟩ := bd_s h
      have hM := (c_Codes_isCapital l D cI cZ tt H.size a1 x24 hc24)
      refine hn_cz hE (hn_runS (As := [.int a1]) (rest := []) S hE hM cf_Codes_isCapital mw_188 mw_189 ⟨rfl, rfl⟩ ⟨Nat.le_of_ble_eq_true rfl, Nat.le_of_ble_eq_true rfl⟩ [] rfl rfl rfl rfl hl.1 (lv_room (Nat.le_of_ble_eq_true rfl)) d_Codes_asciiDirection_24 ⟨Nat.zero_le _, Nat.zero_le _⟩) [] rfl rfl (fun H locs hz24 hE => ?_)
      have hE : hn_E D (TY cI cZ) tt A s H locs [] := hE
      refine lv_if_ne (tgt := 41) hx hb d_Codes_asciiDirection_27 (by decide) (fun hc => ?_) (fun hc => ?_)
      · have h := ite_f hc h
        refine lv_iconst (v := 1) hx hb d_Codes_asciiDirection_41 (by decide) ?_
        refine lv_goto (tgt := 48) hx hb d_Codes_asciiDirection_42 (by decide) ?_
        obtain rfl := Option.some.inj h
        exact hret H locs ls 48 d_Codes_asciiDirection_48 hE
      · have h := ite_t hc h
        refine lv_iload_n hx hb d_Codes_asciiDirection_30 rfl (lv_at hl 0 rfl) ?_
        refine lv_bipush (v := 97) hx hb d_Codes_asciiDirection_31 (by decide) ?_
        refine lv_bipush (v := 122) hx hb d_Codes_asciiDirection_33 (by decide) ?_
        obtain ⟨x35, hc35, h⟩ := bd_s h
        have hM := (c_Codes_isWithin l D cI cZ tt H.size a1 (97 : Int32) (122 : Int32) x35 hc35)
        refine hn_cz hE (hn_runS (As := [.int a1, .int (97 : Int32), .int (122 : Int32)]) (rest := []) S hE hM cf_Codes_isWithin mw_186 mw_135 ⟨rfl, rfl⟩ ⟨Nat.le_of_ble_eq_true rfl, Nat.le_of_ble_eq_true rfl⟩ [] rfl rfl rfl rfl hl.1 (lv_room (Nat.le_of_ble_eq_true rfl)) d_Codes_asciiDirection_35 ⟨Nat.zero_le _, Nat.zero_le _⟩) [] rfl rfl (fun H locs hz35 hE => ?_)
        have hE : hn_E D (TY cI cZ) tt A s H locs [] := hE
        refine lv_if_eq (tgt := 45) hx hb d_Codes_asciiDirection_38 (by decide) (fun hc => ?_) (fun hc => ?_)
        · have h := ite_t hc h
          refine lv_sipush (v := 256) hx hb d_Codes_asciiDirection_45 (by decide) ?_
          obtain rfl := Option.some.inj h
          exact hret H locs ls 48 d_Codes_asciiDirection_48 hE
        · have h := ite_f hc h
          refine lv_iconst (v := 1) hx hb d_Codes_asciiDirection_41 (by decide) ?_
          refine lv_goto (tgt := 48) hx hb d_Codes_asciiDirection_42 (by decide) ?_
          obtain rfl := Option.some.inj h
          exact hret H locs ls 48 d_Codes_asciiDirection_48 hE
    · have h := ite_t hc h
      refine lv_bipush (v := 32) hx hb d_Codes_asciiDirection_20 (by decide) ?_
      obtain rfl := Option.some.inj h
      exact hret H locs ls 22 d_Codes_asciiDirection_22 hE
  · have h := ite_f hc h
    refine lv_bipush (v := 16) hx hb d_Codes_asciiDirection_11 (by decide) ?_
    obtain rfl := Option.some.inj h
    exact hret H locs ls 13 d_Codes_asciiDirection_13 hE
abbrev rm_Codes_direction : Room := { frames := 2, cells := 0, slots := 0, locals := 42 }
theorem cf_Codes_direction : hn_CF y_Codes_direction b_Codes_direction 1 (some .int) 1 := ⟨mw_338, mw_8, by decide, by decide, by decide +kernel⟩
set_option maxHeartbeats 4000000 in
set_option maxRecDepth 100000 in
theorem c_Codes_direction (l : Launch) (D : va_G) (cI cZ : ClassId) (tt : Nat → Nat) (sz : Nat) (a1 : Int32) (o : Int32) (h : P_Codes_direction a1 = some o) : Met l y_Codes_direction (hn_w y_Codes_direction b_Codes_direction 1 (some .int)) rm_Codes_direction (hn_Pc D (TY cI cZ) tt [.int a1] sz []) (hn_Qi D [] sz [] o) 0 0 (va_A [] sz) := by
  refine hn_ofWi (own := R_Codes) (by decide) rfl (Nat.le_of_ble_eq_true rfl) ?_
  intro p e s m args below meth c A H locs ls Q S hE hl hret
  have hx := S.1
  have hb := S.2.1
  have hown := S.2.2.2.1
  have hl : lv_has ls 1 [(0, .int a1)] := hl
  unfold P_Codes_direction at h
  refine lv_iload_n hx hb d_Codes_direction_0 rfl (lv_at hl 0 rfl) ?_
  obtain ⟨x1, hc1, h⟩ := bd_s h
  have hM := (c_Codes_isMark l D cI cZ tt H.size a1 x1 hc1)
  refine hn_cz hE (hn_runS (As := [.int a1]) (rest := []) S hE hM cf_Codes_isMark mw_339 mw_340 ⟨rfl, rfl⟩ ⟨Nat.le_of_ble_eq_true rfl, Nat.le_of_ble_eq_true rfl⟩ [] rfl rfl rfl rfl hl.1 (lv_room (Nat.le_of_ble_eq_true rfl)) d_Codes_direction_1 ⟨Nat.zero_le _, Nat.zero_le _⟩) [] rfl rfl (fun H locs hz1 hE => ?_)
  have hE : hn_E D (TY cI cZ) tt A s H locs [] := hE
  refine lv_if_eq (tgt := 10) hx hb d_Codes_direction_4 (by decide) (fun hc => ?_) (fun hc => ?_)
  · have h := ite_t hc h
    refine lv_iload_n hx hb d_Codes_direction_10 rfl (lv_at hl 0 rfl) ?_
    refine lv_iconst (v := 0) hx hb d_Codes_direction_11 (by decide) ?_
    refine lv_bipush (v := 127) hx hb d_Codes_direction_12 (by decide) ?_
    obtain ⟨x14, hc14, h⟩ := bd_s h
    have hM := (c_Codes_isWithin l D cI cZ tt H.size a1 (0 : Int32) (127 : Int32) x14 hc14)
    refine hn_cz hE (hn_runS (As := [.int a1, .int (0 : Int32), .int (127 : Int32)]) (rest := []) S hE hM cf_Codes_isWithin mw_186 mw_135 ⟨rfl, rfl⟩ ⟨Nat.le_of_ble_eq_true rfl, Nat.le_of_ble_eq_true rfl⟩ [] rfl rfl rfl rfl hl.1 (lv_room (Nat.le_of_ble_eq_true rfl)) d_Codes_direction_14 ⟨Nat.zero_le _, Nat.zero_le _⟩) [] rfl rfl (fun H locs hz14 hE => ?_)
    have hE : hn_E D (TY cI cZ) tt A s H locs [] := hE
    refine lv_if_eq (tgt := 25) hx hb d_Codes_direction_17 (by decide) (fun hc => ?_) (fun hc => ?_)
    · have h := ite_t hc h
      refine lv_iload_n hx hb d_Codes_direction_25 rfl (lv_at hl 0 rfl) ?_
      refine lv_sipush (v := 1488) hx hb d_Codes_direction_26 (by decide) ?_
      refine lv_sipush (v := 1514) hx hb d_Codes_direction_29 (by decide) ?_
      obtain ⟨x32, hc32, h⟩ := bd_s h
      have hM := (c_Codes_isWithin l D cI cZ tt H.size a1 (1488 : Int32) (1514 : Int32) x32 hc32)
      refine hn_cz hE (hn_runS (As := [.int a1, .int (1488 : Int32), .int (1514 : Int32)]) (rest := []) S hE hM cf_Codes_isWithin mw_186 mw_135 ⟨rfl, rfl⟩ ⟨Nat.le_of_ble_eq_true rfl, Nat.le_of_ble_eq_true rfl⟩ [] rfl rfl rfl rfl hl.1 (lv_room (Nat.le_of_ble_eq_true rfl)) d_Codes_direction_32 ⟨Nat.zero_le _, Nat.zero_le _⟩) [] rfl rfl (fun H locs hz32 hE => ?_)
      have hE : hn_E D (TY cI cZ) tt A s H locs [] := hE
      refine lv_if_eq (tgt := 40) hx hb d_Codes_direction_35 (by decide) (fun hc => ?_) (fun hc => ?_)
      · have h := ite_t hc h
        refine lv_iload_n hx hb d_Codes_direction_40 rfl (lv_at hl 0 rfl) ?_
        refine lv_sipush (v := 1575) hx hb d_Codes_direction_41 (by decide) ?_
        refine lv_icmp_eq (tgt := 54) hx hb d_Codes_direction_44 (by decide) (fun hc => ?_) (fun hc => ?_)
        · have h := ite_t hc h
          refine lv_iconst (v := 4) hx hb d_Codes_direction_54 (by decide) ?_
          obtain rfl := Option.some.inj h
          exact hret H locs ls 55 d_Codes_direction_55 hE
        · have h := ite_f hc h
          refine lv_iload_n hx hb d_Codes_direction_47 rfl (lv_at hl 0 rfl) ?_
          refine lv_sipush (v := 1576) hx hb d_Codes_direction_48 (by decide) ?_
          refine lv_icmp_ne (tgt := 56) hx hb d_Codes_direction_51 (by decide) (fun hc => ?_) (fun hc => ?_)
          · have h := ite_f hc h
            refine lv_iload_n hx hb d_Codes_direction_56 rfl (lv_at hl 0 rfl) ?_
            refine lv_sipush (v := 1632) hx hb d_Codes_direction_57 (by decide) ?_
            refine lv_sipush (v := 1641) hx hb d_Codes_direction_60 (by decide) ?_
            obtain ⟨x63, hc63, h⟩ := bd_s h
            have hM := (c_Codes_isWithin l D cI cZ tt H.size a1 (1632 : Int32) (1641 : Int32) x63 hc63)
            refine hn_cz hE (hn_runS (As := [.int a1, .int (1632 : Int32), .int (1641 : Int32)]) (rest := []) S hE hM cf_Codes_isWithin mw_186 mw_135 ⟨rfl, rfl⟩ ⟨Nat.le_of_ble_eq_true rfl, Nat.le_of_ble_eq_true rfl⟩ [] rfl rfl rfl rfl hl.1 (lv_room (Nat.le_of_ble_eq_true rfl)) d_Codes_direction_63 ⟨Nat.zero_le _, Nat.zero_le _⟩) [] rfl rfl (fun H locs hz63 hE => ?_)
            have hE : hn_E D (TY cI cZ) tt A s H locs [] := hE
            refine lv_if_eq (tgt := 72) hx hb d_Codes_direction_66 (by decide) (fun hc => ?_) (fun hc => ?_)
            · have h := ite_t hc h
              refine lv_iload_n hx hb d_Codes_direction_72 rfl (lv_at hl 0 rfl) ?_
              refine lv_sipush (v := 1776) hx hb d_Codes_direction_73 (by decide) ?_
              refine lv_sipush (v := 1785) hx hb d_Codes_direction_76 (by decide) ?_
              obtain ⟨x79, hc79, h⟩ := bd_s h
              have hM := (c_Codes_isWithin l D cI cZ tt H.size a1 (1776 : Int32) (1785 : Int32) x79 hc79)
              refine hn_cz hE (hn_runS (As := [.int a1, .int (1776 : Int32), .int (1785 : Int32)]) (rest := []) S hE hM cf_Codes_isWithin mw_186 mw_135 ⟨rfl, rfl⟩ ⟨Nat.le_of_ble_eq_true rfl, Nat.le_of_ble_eq_true rfl⟩ [] rfl rfl rfl rfl hl.1 (lv_room (Nat.le_of_ble_eq_true rfl)) d_Codes_direction_79 ⟨Nat.zero_le _, Nat.zero_le _⟩) [] rfl rfl (fun H locs hz79 hE => ?_)
              have hE : hn_E D (TY cI cZ) tt A s H locs [] := hE
              refine lv_if_eq (tgt := 88) hx hb d_Codes_direction_82 (by decide) (fun hc => ?_) (fun hc => ?_)
              · have h := ite_t hc h
                refine lv_iload_n hx hb d_Codes_direction_88 rfl (lv_at hl 0 rfl) ?_
                refine lv_sipush (v := 8204) hx hb d_Codes_direction_89 (by decide) ?_
                refine lv_icmp_eq (tgt := 102) hx hb d_Codes_direction_92 (by decide) (fun hc => ?_) (fun hc => ?_)
                · have h := ite_t hc h
                  refine lv_sipush (v := 128) hx hb d_Codes_direction_102 (by decide) ?_
                  refine lv_goto (tgt := 109) hx hb d_Codes_direction_105 (by decide) ?_
                  obtain rfl := Option.some.inj h
                  exact hret H locs ls 109 d_Codes_direction_109 hE
                · have h := ite_f hc h
                  refine lv_iload_n hx hb d_Codes_direction_95 rfl (lv_at hl 0 rfl) ?_
                  refine lv_sipush (v := 8205) hx hb d_Codes_direction_96 (by decide) ?_
                  refine lv_icmp_ne (tgt := 108) hx hb d_Codes_direction_99 (by decide) (fun hc => ?_) (fun hc => ?_)
                  · have h := ite_f hc h
                    refine lv_iconst (v := 1) hx hb d_Codes_direction_108 (by decide) ?_
                    obtain rfl := Option.some.inj h
                    exact hret H locs ls 109 d_Codes_direction_109 hE
                  · have h := ite_t hc h
                    refine lv_sipush (v := 128) hx hb d_Codes_direction_102 (by decide) ?_
                    refine lv_goto (tgt := 109) hx hb d_Codes_direction_105 (by decide) ?_
                    obtain rfl := Option.some.inj h
                    exact hret H locs ls 109 d_Codes_direction_109 hE
              · have h := ite_f hc h
                refine lv_bipush (v := 16) hx hb d_Codes_direction_85 (by decide) ?_
                obtain rfl := Option.some.inj h
                exact hret H locs ls 87 d_Codes_direction_87 hE
            · have h := ite_f hc h
              refine lv_bipush (v := 8) hx hb d_Codes_direction_69 (by decide) ?_
              obtain rfl := Option.some.inj h
              exact hret H locs ls 71 d_Codes_direction_71 hE
          · have h := ite_t hc h
            refine lv_iconst (v := 4) hx hb d_Codes_direction_54 (by decide) ?_
            obtain rfl := Option.some.inj h
            exact hret H locs ls 55 d_Codes_direction_55 hE
      · have h := ite_f hc h
        refine lv_iconst (v := 2) hx hb d_Codes_direction_38 (by decide) ?_
        obtain rfl := Option.some.inj h
        exact hret H locs ls 39 d_Codes_direction_39 hE
    · have h := ite_f hc h
      refine lv_iload_n hx hb d_Codes_direction_20 rfl (lv_at hl 0 rfl) ?_
      obtain ⟨x21, hc21, h⟩ := bd_s h
      have hM := (c_Codes_asciiDirection l D cI cZ tt H.size a1 x21 hc21)
      refine hn_ci hE (hn_runS (As := [.int a1]) (rest := []) S hE hM cf_Codes_asciiDirection mw_343 mw_344 ⟨rfl, rfl⟩ ⟨Nat.le_of_ble_eq_true rfl, Nat.le_of_ble_eq_true rfl⟩ [] rfl rfl rfl rfl hl.1 (lv_room (Nat.le_of_ble_eq_true rfl)) d_Codes_direction_21 ⟨Nat.zero_le _, Nat.zero_le _⟩) [] rfl rfl (fun H locs hE => ?_)
      have hE : hn_E D (TY cI cZ) tt A s H locs [] := hE
      obtain rfl := Option.some.inj h
      exact hret H locs ls 24 d_Codes_direction_24 hE
  · have h := ite_f hc h
    refine lv_bipush (v := 64) hx hb d_Codes_direction_7 (by decide) ?_
    obtain rfl := Option.some.inj h
    exact hret H locs ls 9 d_Codes_direction_9 hE
abbrev rm_Codes_hasRightToLeft : Room := { frames := 3, cells := 0, slots := 0, locals := 62 }
theorem cf_Codes_hasRightToLeft : hn_CF y_Codes_hasRightToLeft b_Codes_hasRightToLeft 2 (some .boolean) 1 := ⟨mw_333, mw_8, by decide, by decide, by decide +kernel⟩
set_option maxHeartbeats 4000000 in
set_option maxRecDepth 100000 in
theorem c_Codes_hasRightToLeft (l : Launch) (D : va_G) (cI cZ : ClassId) (tt : Nat → Nat) (h_a1 h_a1_codes : Nat) (sz : Nat) (N_a1_codes : Nat) (n_a1_size : Int32) (f_a1_codes : Nat → Int32) (o : Int32) (h : P_Codes_hasRightToLeft N_a1_codes n_a1_size f_a1_codes = some o) : Met l y_Codes_hasRightToLeft (hn_w y_Codes_hasRightToLeft b_Codes_hasRightToLeft 2 (some .boolean)) rm_Codes_hasRightToLeft (hn_Pc D (TY cI cZ) tt [.ref h_a1] sz [(h_a1, .inr (0, [.ref h_a1_codes, .int n_a1_size])), (h_a1_codes, .inl (cI, N_a1_codes, .inl f_a1_codes))]) (hn_Qz D [(h_a1, .inr (0, [.ref h_a1_codes, .int n_a1_size])), (h_a1_codes, .inl (cI, N_a1_codes, .inl f_a1_codes))] sz [(h_a1, .inr (0, [.ref h_a1_codes, .int n_a1_size])), (h_a1_codes, .inl (cI, N_a1_codes, .inl f_a1_codes))] o) 0 0 (va_A [(h_a1, .inr (0, [.ref h_a1_codes, .int n_a1_size])), (h_a1_codes, .inl (cI, N_a1_codes, .inl f_a1_codes))] sz) := by
  refine hn_ofWz (own := R_Codes) (by decide) rfl (Nat.le_of_ble_eq_true rfl) ?_
  intro p e s m args below meth c A H locs ls Q S hE hl hret
  have hx := S.1
  have hb := S.2.1
  have hown := S.2.2.2.1
  have hl : lv_has ls 2 [(0, .ref h_a1)] := hl
  have hL2 : ∀ (kf : Nat) (v1 : Int32) (H : Heap) (locs : List Loc) (ls : Array Slot), hn_E D (TY cI cZ) tt A s H locs [(h_a1, .inr (0, [.ref h_a1_codes, .int n_a1_size])), (h_a1_codes, .inl (cI, N_a1_codes, .inl f_a1_codes))] → lv_has ls 2 [(0, .ref h_a1), (1, .int v1)] → fl1 (P_Codes_hasRightToLeft_2 N_a1_codes n_a1_size f_a1_codes) kf v1 = some o → W p l e rm_Codes_hasRightToLeft s m args below meth c H locs 0 0 Q (F0 m 2 ls []) := by
    intro kf
    induction kf with
    | zero => intro v1 H locs ls hE hl h; exact no_s h
    | succ kf ih =>
      intro v1 H locs ls hE hl h
      have h : P_Codes_hasRightToLeft_2 N_a1_codes n_a1_size f_a1_codes (fl1 (P_Codes_hasRightToLeft_2 N_a1_codes n_a1_size f_a1_codes) kf) v1 = some o := h
      generalize fl1 (P_Codes_hasRightToLeft_2 N_a1_codes n_a1_size f_a1_codes) kf = k2 at ih h
      have hk2 := ih
      unfold P_Codes_hasRightToLeft_2 at h
      refine lv_iload_n hx hb d_Codes_hasRightToLeft_2 rfl (lv_at hl 1 rfl) ?_
      refine lv_aload_n hx hb d_Codes_hasRightToLeft_3 rfl (lv_at hl 0 rfl) ?_
      obtain ⟨x4, hc4, h⟩ := bd_s h
      have hM := (c_Row_size l D cI cZ tt h_a1 h_a1_codes H.size N_a1_codes n_a1_size f_a1_codes x4 hc4)
      refine hn_ci hE (hn_runV (As := []) (rest := [.int v1]) S hE hM cf_Row_size mw_334 mw_147 mw_148 ⟨rfl, rfl⟩ ⟨Nat.le_of_ble_eq_true rfl, Nat.le_of_ble_eq_true rfl⟩ [0, 1] rfl rfl rfl rfl rfl rfl hl.1 (lv_room (Nat.le_of_ble_eq_true rfl)) d_Codes_hasRightToLeft_4 ⟨Nat.zero_le _, Nat.zero_le _⟩) [0, 1] rfl rfl (fun H locs hE => ?_)
      have hE : hn_E D (TY cI cZ) tt A s H locs [(h_a1, .inr (0, [.ref h_a1_codes, .int n_a1_size])), (h_a1_codes, .inl (cI, N_a1_codes, .inl f_a1_codes))] := hE
      refine lv_icmp_ge (tgt := 32) hx hb d_Codes_hasRightToLeft_7 (by decide) (fun hc => ?_) (fun hc => ?_)
      · have h := ite_t hc h
        refine lv_iconst (v := 0) hx hb d_Codes_hasRightToLeft_32 (by decide) ?_
        obtain rfl := Option.some.inj h
        exact hret H locs ls 33 d_Codes_hasRightToLeft_33 narrow_b0 hE
      · have h := ite_f hc h
        refine lv_aload_n hx hb d_Codes_hasRightToLeft_10 rfl (lv_at hl 0 rfl) ?_
        refine lv_iload_n hx hb d_Codes_hasRightToLeft_11 rfl (lv_at hl 1 rfl) ?_
        obtain ⟨x12, hc12, h⟩ := bd_s h
        have hM := (c_Row_get l D cI cZ tt h_a1 h_a1_codes H.size N_a1_codes n_a1_size f_a1_codes v1 x12 hc12)
        refine hn_ci hE (hn_runV (As := [.int v1]) (rest := []) S hE hM cf_Row_get mw_335 mw_167 mw_168 ⟨rfl, rfl⟩ ⟨Nat.le_of_ble_eq_true rfl, Nat.le_of_ble_eq_true rfl⟩ [0, 1] rfl rfl rfl rfl rfl rfl hl.1 (lv_room (Nat.le_of_ble_eq_true rfl)) d_Codes_hasRightToLeft_12 ⟨Nat.zero_le _, Nat.zero_le _⟩) [0, 1] rfl rfl (fun H locs hE => ?_)
        have hE : hn_E D (TY cI cZ) tt A s H locs [(h_a1, .inr (0, [.ref h_a1_codes, .int n_a1_size])), (h_a1_codes, .inl (cI, N_a1_codes, .inl f_a1_codes))] := hE
        obtain ⟨x15, hc15, h⟩ := bd_s h
        have hM := (c_Codes_direction l D cI cZ tt H.size x12 x15 hc15)
        refine hn_ci hE (hn_runS (As := [.int x12]) (rest := []) S hE hM cf_Codes_direction mw_336 mw_337 ⟨rfl, rfl⟩ ⟨Nat.le_of_ble_eq_true rfl, Nat.le_of_ble_eq_true rfl⟩ [] rfl rfl rfl rfl hl.1 (lv_room (Nat.le_of_ble_eq_true rfl)) d_Codes_hasRightToLeft_15 ⟨Nat.zero_le _, Nat.zero_le _⟩) [] rfl rfl (fun H locs hE => ?_)
        have hE : hn_E D (TY cI cZ) tt A s H locs [(h_a1, .inr (0, [.ref h_a1_codes, .int n_a1_size])), (h_a1_codes, .inl (cI, N_a1_codes, .inl f_a1_codes))] := hE
        refine lv_bipush (v := 14) hx hb d_Codes_hasRightToLeft_18 (by decide) ?_
        refine lv_iand hx hb d_Codes_hasRightToLeft_20 ?_
        refine lv_if_eq (tgt := 26) hx hb d_Codes_hasRightToLeft_21 (by decide) (fun hc => ?_) (fun hc => ?_)
        · have h := ite_t hc h
          refine lv_iinc (v := (v1 + (1 : Int32))) (lv' := [(1, .int (v1 + (1 : Int32))), (0, .ref h_a1)]) hx hb d_Codes_hasRightToLeft_26 hl (k := 1) rfl rfl (by decide) rfl (fun ls hl => ?_)
          refine lv_goto (tgt := 2) hx hb d_Codes_hasRightToLeft_29 (by decide) ?_
          exact hk2 (v1 + (1 : Int32)) H locs ls hE (lv_sub hl [1, 0] rfl) h
        · have h := ite_f hc h
          refine lv_iconst (v := 1) hx hb d_Codes_hasRightToLeft_24 (by decide) ?_
          obtain rfl := Option.some.inj h
          exact hret H locs ls 25 d_Codes_hasRightToLeft_25 narrow_b1 hE
  unfold P_Codes_hasRightToLeft at h
  refine lv_iconst (v := 0) hx hb d_Codes_hasRightToLeft_0 (by decide) ?_
  refine lv_istore_n (lv' := [(1, .int (0 : Int32)), (0, .ref h_a1)]) hx hb d_Codes_hasRightToLeft_1 rfl hl (by decide) rfl (fun ls hl => ?_)
  exact hL2 fu (0 : Int32) H locs ls hE (lv_sub hl [1, 0] rfl) h
abbrev rm_Codes_joining : Room := { frames := 0, cells := 0, slots := 0, locals := 0 }
theorem cf_Codes_joining : hn_CF y_Codes_joining b_Codes_joining 1 (some .int) 1 := ⟨mw_399, mw_8, by decide, by decide, by decide +kernel⟩
set_option maxHeartbeats 4000000 in
set_option maxRecDepth 100000 in
theorem c_Codes_joining (l : Launch) (D : va_G) (cI cZ : ClassId) (tt : Nat → Nat) (sz : Nat) (a1 : Int32) (o : Int32) (h : P_Codes_joining a1 = some o) : Met l y_Codes_joining (hn_w y_Codes_joining b_Codes_joining 1 (some .int)) rm_Codes_joining (hn_Pc D (TY cI cZ) tt [.int a1] sz []) (hn_Qi D [] sz [] o) 0 0 (va_A [] sz) := by
  refine hn_ofWi (own := R_Codes) (by decide) rfl (Nat.le_of_ble_eq_true rfl) ?_
  intro p e s m args below meth c A H locs ls Q S hE hl hret
  have hx := S.1
  have hb := S.2.1
  have hown := S.2.2.2.1
  have hl : lv_has ls 1 [(0, .int a1)] := hl
  unfold P_Codes_joining at h
  refine lv_iload_n hx hb d_Codes_joining_0 rfl (lv_at hl 0 rfl) ?_
  by_cases hs1575 : a1 = (1575 : Int32)
  · have h := ite_t hs1575 h
    refine lv_lookup (tgt := 44) (off := 43) hx hb d_Codes_joining_1 (by decide) (by rw [hs1575]; decide) (by decide) ?_
    refine lv_iconst (v := 1) hx hb d_Codes_joining_44 (by decide) ?_
    obtain rfl := Option.some.inj h
    exact hret H locs ls 45 d_Codes_joining_45 hE
  have h := ite_f hs1575 h
  by_cases hs1576 : a1 = (1576 : Int32)
  · have h := ite_t hs1576 h
    refine lv_lookup (tgt := 46) (off := 45) hx hb d_Codes_joining_1 (by decide) (by rw [hs1576]; decide) (by decide) ?_
    refine lv_iconst (v := 2) hx hb d_Codes_joining_46 (by decide) ?_
    obtain rfl := Option.some.inj h
    exact hret H locs ls 47 d_Codes_joining_47 hE
  have h := ite_f hs1576 h
  by_cases hs1614 : a1 = (1614 : Int32)
  · have h := ite_t hs1614 h
    refine lv_lookup (tgt := 48) (off := 47) hx hb d_Codes_joining_1 (by decide) (by rw [hs1614]; decide) (by decide) ?_
    refine lv_iconst (v := 3) hx hb d_Codes_joining_48 (by decide) ?_
    obtain rfl := Option.some.inj h
    exact hret H locs ls 49 d_Codes_joining_49 hE
  have h := ite_f hs1614 h
  by_cases hs2381 : a1 = (2381 : Int32)
  · have h := ite_t hs2381 h
    refine lv_lookup (tgt := 48) (off := 47) hx hb d_Codes_joining_1 (by decide) (by rw [hs2381]; decide) (by decide) ?_
    refine lv_iconst (v := 3) hx hb d_Codes_joining_48 (by decide) ?_
    obtain rfl := Option.some.inj h
    exact hret H locs ls 49 d_Codes_joining_49 hE
  have h := ite_f hs2381 h
  refine lv_lookup (tgt := 50) (off := 49) hx hb d_Codes_joining_1 (by decide) (by rw [lv_osw hs1575 (by decide)]; rw [lv_osw hs1576 (by decide)]; rw [lv_osw hs1614 (by decide)]; rw [lv_osw hs2381 (by decide)]; rfl) (by decide) ?_
  refine lv_iconst (v := 0) hx hb d_Codes_joining_50 (by decide) ?_
  obtain rfl := Option.some.inj h
  exact hret H locs ls 51 d_Codes_joining_51 hE
end
section
def P_Labels_empty  : Option (Int32 × Int32) :=
  Option.bind (P_Row_empty) (fun x4 => some ((0 : Int32), x4))
def P_Labels_add (N_a1_codes : Nat) (n_this_count : Int32) (n_this_codes_size : Int32) (f_this_codes_codes : Nat → Int32) (f_this_ends : Nat → Int32) (f_this_rules : Nat → Int32) (f_this_tagged : Nat → Int32) (n_a1_size : Int32) (f_a1_codes : Nat → Int32) (a2 : Int32) (a3 : Int32) : Option (Int32 × Int32 × (Nat → Int32) × (Nat → Int32) × (Nat → Int32) × (Nat → Int32)) :=
  if n_this_count < (49 : Int32) then (Option.bind (P_Row_size n_a1_size) (fun x17 => Option.bind (P_Row_addPart 96 N_a1_codes n_this_codes_size f_this_codes_codes n_a1_size f_a1_codes (0 : Int32) x17) (fun x20 => Option.bind (P_Row_size x20.1) (fun x35 => gi n_this_count 49 (gi n_this_count 49 (gi n_this_count 49 (some ((n_this_count + (1 : Int32)), x20.1, x20.2, (upd f_this_ends (n_this_count).toNatClampNeg x35), (upd f_this_rules (n_this_count).toNatClampNeg a3), (upd f_this_tagged (n_this_count).toNatClampNeg (vp_nar .boolean a2)))))))))) else (some (n_this_count, n_this_codes_size, f_this_codes_codes, f_this_ends, f_this_rules, f_this_tagged))
def P_Labels_codes  : Option (Unit) :=
  some ()
def P_Labels_count (n_this_count : Int32) : Option (Int32) :=
  some (n_this_count)
def P_Labels_has (n_this_count : Int32) (a1 : Int32) : Option (Int32) :=
  if a1 < 0 then (some ((0 : Int32))) else (if n_this_count ≤ a1 then (some ((0 : Int32))) else (some ((1 : Int32))))
def P_Labels_copyLabel_33 (N_a2_codes : Nat) (n_this_codes_size : Int32) (f_this_codes_codes : Nat → Int32) (f_this_ends : Nat → Int32) (a1 : Int32) (s0 : Int32) (n_a2_size : Int32) (f_a2_codes : Nat → Int32) : Option (Int32 × (Nat → Int32)) :=
  gi a1 49 (Option.bind (P_Row_addPart N_a2_codes 96 n_a2_size f_a2_codes n_this_codes_size f_this_codes_codes s0 (f_this_ends (a1).toNatClampNeg)) (fun x39 => some (x39.1, x39.2)))
def P_Labels_copyLabel (N_a2_codes : Nat) (n_this_count : Int32) (n_this_codes_size : Int32) (f_this_codes_codes : Nat → Int32) (f_this_ends : Nat → Int32) (f_a2_codes : Nat → Int32) (a1 : Int32) : Option (Int32 × (Nat → Int32)) :=
  Option.bind (P_Row_empty) (fun x1 => Option.bind (P_Labels_has n_this_count a1) (fun x6 => if x6 = 0 then (some (x1, f_a2_codes)) else (if a1 = 0 then (P_Labels_copyLabel_33 N_a2_codes n_this_codes_size f_this_codes_codes f_this_ends a1 (0 : Int32) x1 f_a2_codes) else (gi (a1 - (1 : Int32)) 49 (P_Labels_copyLabel_33 N_a2_codes n_this_codes_size f_this_codes_codes f_this_ends a1 (f_this_ends ((a1 - (1 : Int32))).toNatClampNeg) x1 f_a2_codes)))))
def P_Labels_rules (n_this_count : Int32) (f_this_rules : Nat → Int32) (a1 : Int32) : Option (Int32) :=
  Option.bind (P_Labels_has n_this_count a1) (fun x2 => if x2 = 0 then (some ((-1 : Int32))) else (gi a1 49 (some ((f_this_rules (a1).toNatClampNeg)))))
def P_Labels_wasTagged (n_this_count : Int32) (f_this_tagged : Nat → Int32) (a1 : Int32) : Option (Int32) :=
  Option.bind (P_Labels_has n_this_count a1) (fun x2 => if x2 = 0 then (some ((0 : Int32))) else (gi a1 49 (if (f_this_tagged (a1).toNatClampNeg) = 0 then (some ((0 : Int32))) else (some ((1 : Int32))))))
def P_Labels_addRules (n_this_count : Int32) (f_this_rules : Nat → Int32) (a1 : Int32) (a2 : Int32) : Option ((Nat → Int32)) :=
  Option.bind (P_Labels_has n_this_count a1) (fun x2 => if x2 = 0 then (some (f_this_rules)) else (gi a1 49 (gi a1 49 (some ((upd f_this_rules (a1).toNatClampNeg ((f_this_rules (a1).toNatClampNeg) ||| a2)))))))
def P_Labels_allRules_4 (n_this_count : Int32) (f_this_rules : Nat → Int32) (k4 : (Int32) → (Int32) → Option (Int32)) (v1 : Int32) (v2 : Int32) : Option (Int32) :=
  if n_this_count ≤ v2 then (some (v1)) else (gi v2 49 (k4 (v1 ||| (f_this_rules (v2).toNatClampNeg)) (v2 + (1 : Int32))))
def P_Labels_allRules (n_this_count : Int32) (f_this_rules : Nat → Int32) : Option (Int32) :=
  fl2 (P_Labels_allRules_4 n_this_count f_this_rules) fu (0 : Int32) (0 : Int32)
end
section
abbrev rm_Labels_empty : Room := { frames := 1, cells := 0, slots := 0, locals := 20 }
theorem cf_Labels_empty : hn_CF y_Labels_empty b_Labels_empty 1 none 0 := ⟨mw_252, mw_3, by decide, by decide, by decide +kernel⟩
set_option maxHeartbeats 4000000 in
set_option maxRecDepth 100000 in
theorem c_Labels_empty (l : Launch) (D : va_G) (cI cZ : ClassId) (tt : Nat → Nat) (h_this h_this_codes h_this_codes_codes h_this_ends h_this_rules h_this_tagged : Nat) (sz : Nat) (n_this_count : Int32) (n_this_codes_size : Int32) (f_this_codes_codes : Nat → Int32) (f_this_ends : Nat → Int32) (f_this_rules : Nat → Int32) (f_this_tagged : Nat → Int32) (o : Int32 × Int32) (h : P_Labels_empty = some o) : Met l y_Labels_empty (hn_w y_Labels_empty b_Labels_empty 1 none) rm_Labels_empty (hn_Pc D (TY cI cZ) tt [.ref h_this] sz [(h_this, .inr (1, [.ref h_this_codes, .ref h_this_ends, .ref h_this_rules, .ref h_this_tagged, .int n_this_count])), (h_this_codes, .inr (0, [.ref h_this_codes_codes, .int n_this_codes_size])), (h_this_codes_codes, .inl (cI, 96, .inl f_this_codes_codes)), (h_this_ends, .inl (cI, 49, .inl f_this_ends)), (h_this_rules, .inl (cI, 49, .inl f_this_rules)), (h_this_tagged, .inl (cZ, 49, .inl f_this_tagged))]) (hn_Qv D [(h_this, .inr (1, [.ref h_this_codes, .ref h_this_ends, .ref h_this_rules, .ref h_this_tagged, .int n_this_count])), (h_this_codes, .inr (0, [.ref h_this_codes_codes, .int n_this_codes_size])), (h_this_codes_codes, .inl (cI, 96, .inl f_this_codes_codes)), (h_this_ends, .inl (cI, 49, .inl f_this_ends)), (h_this_rules, .inl (cI, 49, .inl f_this_rules)), (h_this_tagged, .inl (cZ, 49, .inl f_this_tagged))] sz [(h_this, .inr (1, [.ref h_this_codes, .ref h_this_ends, .ref h_this_rules, .ref h_this_tagged, .int o.1])), (h_this_codes, .inr (0, [.ref h_this_codes_codes, .int o.2])), (h_this_codes_codes, .inl (cI, 96, .inl f_this_codes_codes)), (h_this_ends, .inl (cI, 49, .inl f_this_ends)), (h_this_rules, .inl (cI, 49, .inl f_this_rules)), (h_this_tagged, .inl (cZ, 49, .inl f_this_tagged))]) 0 0 (va_A [(h_this, .inr (1, [.ref h_this_codes, .ref h_this_ends, .ref h_this_rules, .ref h_this_tagged, .int n_this_count])), (h_this_codes, .inr (0, [.ref h_this_codes_codes, .int n_this_codes_size])), (h_this_codes_codes, .inl (cI, 96, .inl f_this_codes_codes)), (h_this_ends, .inl (cI, 49, .inl f_this_ends)), (h_this_rules, .inl (cI, 49, .inl f_this_rules)), (h_this_tagged, .inl (cZ, 49, .inl f_this_tagged))] sz) := by
  refine hn_ofWv (own := R_Labels) (by decide) rfl (Nat.le_of_ble_eq_true rfl) ?_
  intro p e s m args below meth c A H locs ls Q S hE hl hret
  have hx := S.1
  have hb := S.2.1
  have hown := S.2.2.2.1
  have hl : lv_has ls 1 [(0, .ref h_this)] := hl
  unfold P_Labels_empty at h
  refine lv_aload_n hx hb d_Labels_empty_0 rfl (lv_at hl 0 rfl) ?_
  refine hn_get S hE kc_Labels 0 rfl rfl 0 (by decide) mw_40 rfl d_Labels_empty_1 ?_
  obtain ⟨x4, hc4, h⟩ := bd_s h
  have hM := (c_Row_empty l D cI cZ tt h_this_codes h_this_codes_codes H.size 96 n_this_codes_size f_this_codes_codes x4 hc4)
  refine hn_cv hE (hn_runV (As := []) (rest := []) S hE hM cf_Row_empty mw_253 mw_155 mw_156 ⟨rfl, rfl⟩ ⟨Nat.le_of_ble_eq_true rfl, Nat.le_of_ble_eq_true rfl⟩ [1, 2] rfl rfl rfl rfl rfl rfl hl.1 (lv_room (Nat.le_of_ble_eq_true rfl)) d_Labels_empty_4 ⟨Nat.zero_le _, Nat.zero_le _⟩) [1, 2] rfl rfl (fun H locs hE => ?_)
  have hE : hn_E D (TY cI cZ) tt A s H locs [(h_this, .inr (1, [.ref h_this_codes, .ref h_this_ends, .ref h_this_rules, .ref h_this_tagged, .int n_this_count])), (h_this_codes, .inr (0, [.ref h_this_codes_codes, .int x4])), (h_this_codes_codes, .inl (cI, 96, .inl f_this_codes_codes)), (h_this_ends, .inl (cI, 49, .inl f_this_ends)), (h_this_rules, .inl (cI, 49, .inl f_this_rules)), (h_this_tagged, .inl (cZ, 49, .inl f_this_tagged))] := hE
  refine lv_aload_n hx hb d_Labels_empty_7 rfl (lv_at hl 0 rfl) ?_
  refine lv_iconst (v := 0) hx hb d_Labels_empty_8 (by decide) ?_
  refine hn_put (tv := .int) S hE kc_Labels t_Labels_ok n_Labels 0 rfl rfl 4 (by decide) mw_44 rfl (by decide +kernel) rfl rfl (Nat.le_of_ble_eq_true rfl) d_Labels_empty_9 (fun H locs hE => ?_)
  have hE : hn_E D (TY cI cZ) tt A s H locs [(h_this, .inr (1, [.ref h_this_codes, .ref h_this_ends, .ref h_this_rules, .ref h_this_tagged, .int (0 : Int32)])), (h_this_codes, .inr (0, [.ref h_this_codes_codes, .int x4])), (h_this_codes_codes, .inl (cI, 96, .inl f_this_codes_codes)), (h_this_ends, .inl (cI, 49, .inl f_this_ends)), (h_this_rules, .inl (cI, 49, .inl f_this_rules)), (h_this_tagged, .inl (cZ, 49, .inl f_this_tagged))] := hE
  obtain rfl := Option.some.inj h
  exact hret H locs ls 12 d_Labels_empty_12 hE
abbrev rm_Labels_add : Room := { frames := 2, cells := 0, slots := 0, locals := 45 }
theorem cf_Labels_add : hn_CF y_Labels_add b_Labels_add 4 none 3 := ⟨mw_273, mw_3, by decide, by decide, by decide +kernel⟩
set_option maxHeartbeats 4000000 in
set_option maxRecDepth 100000 in
theorem c_Labels_add (l : Launch) (D : va_G) (cI cZ : ClassId) (tt : Nat → Nat) (h_this h_this_codes h_this_codes_codes h_this_ends h_this_rules h_this_tagged h_a1 h_a1_codes : Nat) (sz : Nat) (N_a1_codes : Nat) (n_this_count : Int32) (n_this_codes_size : Int32) (f_this_codes_codes : Nat → Int32) (f_this_ends : Nat → Int32) (f_this_rules : Nat → Int32) (f_this_tagged : Nat → Int32) (n_a1_size : Int32) (f_a1_codes : Nat → Int32) (a2 : Int32) (a3 : Int32) (o : Int32 × Int32 × (Nat → Int32) × (Nat → Int32) × (Nat → Int32) × (Nat → Int32)) (h : P_Labels_add N_a1_codes n_this_count n_this_codes_size f_this_codes_codes f_this_ends f_this_rules f_this_tagged n_a1_size f_a1_codes a2 a3 = some o) : Met l y_Labels_add (hn_w y_Labels_add b_Labels_add 4 none) rm_Labels_add (hn_Pc D (TY cI cZ) tt [.ref h_this, .ref h_a1, .int a2, .int a3] sz [(h_this, .inr (1, [.ref h_this_codes, .ref h_this_ends, .ref h_this_rules, .ref h_this_tagged, .int n_this_count])), (h_this_codes, .inr (0, [.ref h_this_codes_codes, .int n_this_codes_size])), (h_this_codes_codes, .inl (cI, 96, .inl f_this_codes_codes)), (h_this_ends, .inl (cI, 49, .inl f_this_ends)), (h_this_rules, .inl (cI, 49, .inl f_this_rules)), (h_this_tagged, .inl (cZ, 49, .inl f_this_tagged)), (h_a1, .inr (0, [.ref h_a1_codes, .int n_a1_size])), (h_a1_codes, .inl (cI, N_a1_codes, .inl f_a1_codes))]) (hn_Qv D [(h_this, .inr (1, [.ref h_this_codes, .ref h_this_ends, .ref h_this_rules, .ref h_this_tagged, .int n_this_count])), (h_this_codes, .inr (0, [.ref h_this_codes_codes, .int n_this_codes_size])), (h_this_codes_codes, .inl (cI, 96, .inl f_this_codes_codes)), (h_this_ends, .inl (cI, 49, .inl f_this_ends)), (h_this_rules, .inl (cI, 49, .inl f_this_rules)), (h_this_tagged, .inl (cZ, 49, .inl f_this_tagged)), (h_a1, .inr (0, [.ref h_a1_codes, .int n_a1_size])), (h_a1_codes, .inl (cI, N_a1_codes, .inl f_a1_codes))] sz [(h_this, .inr (1, [.ref h_this_codes, .ref h_this_ends, .ref h_this_rules, .ref h_this_tagged, .int o.1])), (h_this_codes, .inr (0, [.ref h_this_codes_codes, .int o.2.1])), (h_this_codes_codes, .inl (cI, 96, .inl o.2.2.1)), (h_this_ends, .inl (cI, 49, .inl o.2.2.2.1)), (h_this_rules, .inl (cI, 49, .inl o.2.2.2.2.1)), (h_this_tagged, .inl (cZ, 49, .inl o.2.2.2.2.2)), (h_a1, .inr (0, [.ref h_a1_codes, .int n_a1_size])), (h_a1_codes, .inl (cI, N_a1_codes, .inl f_a1_codes))]) 0 0 (va_A [(h_this, .inr (1, [.ref h_this_codes, .ref h_this_ends, .ref h_this_rules, .ref h_this_tagged, .int n_this_count])), (h_this_codes, .inr (0, [.ref h_this_codes_codes, .int n_this_codes_size])), (h_this_codes_codes, .inl (cI, 96, .inl f_this_codes_codes)), (h_this_ends, .inl (cI, 49, .inl f_this_ends)), (h_this_rules, .inl (cI, 49, .inl f_this_rules)), (h_this_tagged, .inl (cZ, 49, .inl f_this_tagged)), (h_a1, .inr (0, [.ref h_a1_codes, .int n_a1_size])), (h_a1_codes, .inl (cI, N_a1_codes, .inl f_a1_codes))] sz) := by
  refine hn_ofWv (own := R_Labels) (by decide) rfl (Nat.le_of_ble_eq_true rfl) ?_
  intro p e s m args below meth c A H locs ls Q S hE hl hret
  have hx := S.1
  have hb := S.2.1
  have hown := S.2.2.2.1
  have hl : lv_has ls 4 [(0, .ref h_this), (1, .ref h_a1), (2, .int a2), (3, .int a3)] := hl
  unfold P_Labels_add at h
  refine lv_aload_n hx hb d_Labels_add_0 rfl (lv_at hl 0 rfl) ?_
  refine hn_get S hE kc_Labels 0 rfl rfl 4 (by decide) mw_44 rfl d_Labels_add_1 ?_
  refine lv_bipush (v := 49) hx hb d_Labels_add_4 (by decide) ?_
  refine lv_icmp_lt (tgt := 10) hx hb d_Labels_add_6 (by decide) (fun hc => ?_) (fun hc => ?_)
  · have h := ite_t hc h
    refine lv_aload_n hx hb d_Labels_add_10 rfl (lv_at hl 0 rfl) ?_
    refine hn_get S hE kc_Labels 0 rfl rfl 0 (by decide) mw_40 rfl d_Labels_add_11 ?_
    refine lv_aload_n hx hb d_Labels_add_14 rfl (lv_at hl 1 rfl) ?_
    refine lv_iconst (v := 0) hx hb d_Labels_add_15 (by decide) ?_
    refine lv_aload_n hx hb d_Labels_add_16 rfl (lv_at hl 1 rfl) ?_
    obtain ⟨x17, hc17, h⟩ := bd_s h
    have hM := (c_Row_size l D cI cZ tt h_a1 h_a1_codes H.size N_a1_codes n_a1_size f_a1_codes x17 hc17)
    refine hn_ci hE (hn_runV (As := []) (rest := [.int (0 : Int32), .ref h_a1, .ref h_this_codes]) S hE hM cf_Row_size mw_274 mw_147 mw_148 ⟨rfl, rfl⟩ ⟨Nat.le_of_ble_eq_true rfl, Nat.le_of_ble_eq_true rfl⟩ [6, 7] rfl rfl rfl rfl rfl rfl hl.1 (lv_room (Nat.le_of_ble_eq_true rfl)) d_Labels_add_17 ⟨Nat.zero_le _, Nat.zero_le _⟩) [6, 7] rfl rfl (fun H locs hE => ?_)
    have hE : hn_E D (TY cI cZ) tt A s H locs [(h_this, .inr (1, [.ref h_this_codes, .ref h_this_ends, .ref h_this_rules, .ref h_this_tagged, .int n_this_count])), (h_this_codes, .inr (0, [.ref h_this_codes_codes, .int n_this_codes_size])), (h_this_codes_codes, .inl (cI, 96, .inl f_this_codes_codes)), (h_this_ends, .inl (cI, 49, .inl f_this_ends)), (h_this_rules, .inl (cI, 49, .inl f_this_rules)), (h_this_tagged, .inl (cZ, 49, .inl f_this_tagged)), (h_a1, .inr (0, [.ref h_a1_codes, .int n_a1_size])), (h_a1_codes, .inl (cI, N_a1_codes, .inl f_a1_codes))] := hE
    obtain ⟨x20, hc20, h⟩ := bd_s h
    have hM := (c_Row_addPart l D cI cZ tt h_this_codes h_this_codes_codes h_a1 h_a1_codes H.size 96 N_a1_codes n_this_codes_size f_this_codes_codes n_a1_size f_a1_codes (0 : Int32) x17 x20 hc20)
    refine hn_cv hE (hn_runV (As := [.ref h_a1, .int (0 : Int32), .int x17]) (rest := []) S hE hM cf_Row_addPart mw_275 mw_255 mw_256 ⟨rfl, rfl⟩ ⟨Nat.le_of_ble_eq_true rfl, Nat.le_of_ble_eq_true rfl⟩ [1, 2, 6, 7] rfl rfl rfl rfl rfl rfl hl.1 (lv_room (Nat.le_of_ble_eq_true rfl)) d_Labels_add_20 ⟨Nat.zero_le _, Nat.zero_le _⟩) [1, 2, 6, 7] rfl rfl (fun H locs hE => ?_)
    have hE : hn_E D (TY cI cZ) tt A s H locs [(h_this, .inr (1, [.ref h_this_codes, .ref h_this_ends, .ref h_this_rules, .ref h_this_tagged, .int n_this_count])), (h_this_codes, .inr (0, [.ref h_this_codes_codes, .int x20.1])), (h_this_codes_codes, .inl (cI, 96, .inl x20.2)), (h_this_ends, .inl (cI, 49, .inl f_this_ends)), (h_this_rules, .inl (cI, 49, .inl f_this_rules)), (h_this_tagged, .inl (cZ, 49, .inl f_this_tagged)), (h_a1, .inr (0, [.ref h_a1_codes, .int n_a1_size])), (h_a1_codes, .inl (cI, N_a1_codes, .inl f_a1_codes))] := hE
    refine lv_aload_n hx hb d_Labels_add_23 rfl (lv_at hl 0 rfl) ?_
    refine hn_get S hE kc_Labels 0 rfl rfl 1 (by decide) mw_41 rfl d_Labels_add_24 ?_
    refine lv_aload_n hx hb d_Labels_add_27 rfl (lv_at hl 0 rfl) ?_
    refine hn_get S hE kc_Labels 0 rfl rfl 4 (by decide) mw_44 rfl d_Labels_add_28 ?_
    refine lv_aload_n hx hb d_Labels_add_31 rfl (lv_at hl 0 rfl) ?_
    refine hn_get S hE kc_Labels 0 rfl rfl 0 (by decide) mw_40 rfl d_Labels_add_32 ?_
    obtain ⟨x35, hc35, h⟩ := bd_s h
    have hM := (c_Row_size l D cI cZ tt h_this_codes h_this_codes_codes H.size 96 x20.1 x20.2 x35 hc35)
    refine hn_ci hE (hn_runV (As := []) (rest := [.int n_this_count, .ref h_this_ends]) S hE hM cf_Row_size mw_274 mw_147 mw_148 ⟨rfl, rfl⟩ ⟨Nat.le_of_ble_eq_true rfl, Nat.le_of_ble_eq_true rfl⟩ [1, 2] rfl rfl rfl rfl rfl rfl hl.1 (lv_room (Nat.le_of_ble_eq_true rfl)) d_Labels_add_35 ⟨Nat.zero_le _, Nat.zero_le _⟩) [1, 2] rfl rfl (fun H locs hE => ?_)
    have hE : hn_E D (TY cI cZ) tt A s H locs [(h_this, .inr (1, [.ref h_this_codes, .ref h_this_ends, .ref h_this_rules, .ref h_this_tagged, .int n_this_count])), (h_this_codes, .inr (0, [.ref h_this_codes_codes, .int x20.1])), (h_this_codes_codes, .inl (cI, 96, .inl x20.2)), (h_this_ends, .inl (cI, 49, .inl f_this_ends)), (h_this_rules, .inl (cI, 49, .inl f_this_rules)), (h_this_tagged, .inl (cZ, 49, .inl f_this_tagged)), (h_a1, .inr (0, [.ref h_a1_codes, .int n_a1_size])), (h_a1_codes, .inl (cI, N_a1_codes, .inl f_a1_codes))] := hE
    obtain ⟨hi38, h⟩ := gi_s h
    refine hn_iast S hE 3 0 rfl rfl hi38 d_Labels_add_38 (fun H locs hE => ?_)
    have hE : hn_E D (TY cI cZ) tt A s H locs [(h_this, .inr (1, [.ref h_this_codes, .ref h_this_ends, .ref h_this_rules, .ref h_this_tagged, .int n_this_count])), (h_this_codes, .inr (0, [.ref h_this_codes_codes, .int x20.1])), (h_this_codes_codes, .inl (cI, 96, .inl x20.2)), (h_this_ends, .inl (cI, 49, .inl (upd f_this_ends (n_this_count).toNatClampNeg x35))), (h_this_rules, .inl (cI, 49, .inl f_this_rules)), (h_this_tagged, .inl (cZ, 49, .inl f_this_tagged)), (h_a1, .inr (0, [.ref h_a1_codes, .int n_a1_size])), (h_a1_codes, .inl (cI, N_a1_codes, .inl f_a1_codes))] := hE
    refine lv_aload_n hx hb d_Labels_add_39 rfl (lv_at hl 0 rfl) ?_
    refine hn_get S hE kc_Labels 0 rfl rfl 2 (by decide) mw_42 rfl d_Labels_add_40 ?_
    refine lv_aload_n hx hb d_Labels_add_43 rfl (lv_at hl 0 rfl) ?_
    refine hn_get S hE kc_Labels 0 rfl rfl 4 (by decide) mw_44 rfl d_Labels_add_44 ?_
    refine lv_iload_n hx hb d_Labels_add_47 rfl (lv_at hl 3 rfl) ?_
    obtain ⟨hi48, h⟩ := gi_s h
    refine hn_iast S hE 4 0 rfl rfl hi48 d_Labels_add_48 (fun H locs hE => ?_)
    have hE : hn_E D (TY cI cZ) tt A s H locs [(h_this, .inr (1, [.ref h_this_codes, .ref h_this_ends, .ref h_this_rules, .ref h_this_tagged, .int n_this_count])), (h_this_codes, .inr (0, [.ref h_this_codes_codes, .int x20.1])), (h_this_codes_codes, .inl (cI, 96, .inl x20.2)), (h_this_ends, .inl (cI, 49, .inl (upd f_this_ends (n_this_count).toNatClampNeg x35))), (h_this_rules, .inl (cI, 49, .inl (upd f_this_rules (n_this_count).toNatClampNeg a3))), (h_this_tagged, .inl (cZ, 49, .inl f_this_tagged)), (h_a1, .inr (0, [.ref h_a1_codes, .int n_a1_size])), (h_a1_codes, .inl (cI, N_a1_codes, .inl f_a1_codes))] := hE
    refine lv_aload_n hx hb d_Labels_add_49 rfl (lv_at hl 0 rfl) ?_
    refine hn_get S hE kc_Labels 0 rfl rfl 3 (by decide) mw_43 rfl d_Labels_add_50 ?_
    refine lv_aload_n hx hb d_Labels_add_53 rfl (lv_at hl 0 rfl) ?_
    refine hn_get S hE kc_Labels 0 rfl rfl 4 (by decide) mw_44 rfl d_Labels_add_54 ?_
    refine lv_iload_n hx hb d_Labels_add_57 rfl (lv_at hl 2 rfl) ?_
    obtain ⟨hi58, h⟩ := gi_s h
    refine hn_zast S hE 5 1 rfl rfl hi58 d_Labels_add_58 (fun H locs hE => ?_)
    have hE : hn_E D (TY cI cZ) tt A s H locs [(h_this, .inr (1, [.ref h_this_codes, .ref h_this_ends, .ref h_this_rules, .ref h_this_tagged, .int n_this_count])), (h_this_codes, .inr (0, [.ref h_this_codes_codes, .int x20.1])), (h_this_codes_codes, .inl (cI, 96, .inl x20.2)), (h_this_ends, .inl (cI, 49, .inl (upd f_this_ends (n_this_count).toNatClampNeg x35))), (h_this_rules, .inl (cI, 49, .inl (upd f_this_rules (n_this_count).toNatClampNeg a3))), (h_this_tagged, .inl (cZ, 49, .inl (upd f_this_tagged (n_this_count).toNatClampNeg (vp_nar .boolean a2)))), (h_a1, .inr (0, [.ref h_a1_codes, .int n_a1_size])), (h_a1_codes, .inl (cI, N_a1_codes, .inl f_a1_codes))] := hE
    refine lv_aload_n hx hb d_Labels_add_59 rfl (lv_at hl 0 rfl) ?_
    refine lv_dup hx hb d_Labels_add_60 rfl ?_
    refine hn_get S hE kc_Labels 0 rfl rfl 4 (by decide) mw_44 rfl d_Labels_add_61 ?_
    refine lv_iconst (v := 1) hx hb d_Labels_add_64 (by decide) ?_
    refine lv_iadd hx hb d_Labels_add_65 ?_
    refine hn_put (tv := .int) S hE kc_Labels t_Labels_ok n_Labels 0 rfl rfl 4 (by decide) mw_44 rfl (by decide +kernel) rfl rfl (Nat.le_of_ble_eq_true rfl) d_Labels_add_66 (fun H locs hE => ?_)
    have hE : hn_E D (TY cI cZ) tt A s H locs [(h_this, .inr (1, [.ref h_this_codes, .ref h_this_ends, .ref h_this_rules, .ref h_this_tagged, .int (n_this_count + (1 : Int32))])), (h_this_codes, .inr (0, [.ref h_this_codes_codes, .int x20.1])), (h_this_codes_codes, .inl (cI, 96, .inl x20.2)), (h_this_ends, .inl (cI, 49, .inl (upd f_this_ends (n_this_count).toNatClampNeg x35))), (h_this_rules, .inl (cI, 49, .inl (upd f_this_rules (n_this_count).toNatClampNeg a3))), (h_this_tagged, .inl (cZ, 49, .inl (upd f_this_tagged (n_this_count).toNatClampNeg (vp_nar .boolean a2)))), (h_a1, .inr (0, [.ref h_a1_codes, .int n_a1_size])), (h_a1_codes, .inl (cI, N_a1_codes, .inl f_a1_codes))] := hE
    obtain rfl := Option.some.inj h
    exact hret H locs ls 69 d_Labels_add_69 hE
  · have h := ite_f hc h
    obtain rfl := Option.some.inj h
    exact hret H locs ls 9 d_Labels_add_9 hE
abbrev rm_Labels_codes : Room := { frames := 0, cells := 0, slots := 0, locals := 0 }
theorem cf_Labels_codes : hn_CF y_Labels_codes b_Labels_codes 1 (some (.object "HostNames$Row")) 0 := ⟨mw_330, mw_3, by decide, by decide, by decide +kernel⟩
set_option maxHeartbeats 4000000 in
set_option maxRecDepth 100000 in
theorem c_Labels_codes (l : Launch) (D : va_G) (cI cZ : ClassId) (tt : Nat → Nat) (h_this h_this_codes h_this_codes_codes h_this_ends h_this_rules h_this_tagged : Nat) (sz : Nat) (n_this_count : Int32) (n_this_codes_size : Int32) (f_this_codes_codes : Nat → Int32) (f_this_ends : Nat → Int32) (f_this_rules : Nat → Int32) (f_this_tagged : Nat → Int32) (o : Unit) (h : P_Labels_codes = some o) : Met l y_Labels_codes (hn_w y_Labels_codes b_Labels_codes 1 (some (.object "HostNames$Row"))) rm_Labels_codes (hn_Pc D (TY cI cZ) tt [.ref h_this] sz [(h_this, .inr (1, [.ref h_this_codes, .ref h_this_ends, .ref h_this_rules, .ref h_this_tagged, .int n_this_count])), (h_this_codes, .inr (0, [.ref h_this_codes_codes, .int n_this_codes_size])), (h_this_codes_codes, .inl (cI, 96, .inl f_this_codes_codes)), (h_this_ends, .inl (cI, 49, .inl f_this_ends)), (h_this_rules, .inl (cI, 49, .inl f_this_rules)), (h_this_tagged, .inl (cZ, 49, .inl f_this_tagged))]) (hn_Qr D [(h_this, .inr (1, [.ref h_this_codes, .ref h_this_ends, .ref h_this_rules, .ref h_this_tagged, .int n_this_count])), (h_this_codes, .inr (0, [.ref h_this_codes_codes, .int n_this_codes_size])), (h_this_codes_codes, .inl (cI, 96, .inl f_this_codes_codes)), (h_this_ends, .inl (cI, 49, .inl f_this_ends)), (h_this_rules, .inl (cI, 49, .inl f_this_rules)), (h_this_tagged, .inl (cZ, 49, .inl f_this_tagged))] sz [(h_this, .inr (1, [.ref h_this_codes, .ref h_this_ends, .ref h_this_rules, .ref h_this_tagged, .int n_this_count])), (h_this_codes, .inr (0, [.ref h_this_codes_codes, .int n_this_codes_size])), (h_this_codes_codes, .inl (cI, 96, .inl f_this_codes_codes)), (h_this_ends, .inl (cI, 49, .inl f_this_ends)), (h_this_rules, .inl (cI, 49, .inl f_this_rules)), (h_this_tagged, .inl (cZ, 49, .inl f_this_tagged))] h_this_codes) 0 0 (va_A [(h_this, .inr (1, [.ref h_this_codes, .ref h_this_ends, .ref h_this_rules, .ref h_this_tagged, .int n_this_count])), (h_this_codes, .inr (0, [.ref h_this_codes_codes, .int n_this_codes_size])), (h_this_codes_codes, .inl (cI, 96, .inl f_this_codes_codes)), (h_this_ends, .inl (cI, 49, .inl f_this_ends)), (h_this_rules, .inl (cI, 49, .inl f_this_rules)), (h_this_tagged, .inl (cZ, 49, .inl f_this_tagged))] sz) := by
  refine hn_ofWr (own := R_Labels) (by decide) rfl (Nat.le_of_ble_eq_true rfl) ?_
  intro p e s m args below meth c A H locs ls Q S hE hl hret
  have hx := S.1
  have hb := S.2.1
  have hown := S.2.2.2.1
  have hl : lv_has ls 1 [(0, .ref h_this)] := hl
  unfold P_Labels_codes at h
  refine lv_aload_n hx hb d_Labels_codes_0 rfl (lv_at hl 0 rfl) ?_
  refine hn_get S hE kc_Labels 0 rfl rfl 0 (by decide) mw_40 rfl d_Labels_codes_1 ?_
  obtain rfl := Option.some.inj h
  exact hret H locs ls 4 d_Labels_codes_4 hE
abbrev rm_Labels_count : Room := { frames := 0, cells := 0, slots := 0, locals := 0 }
theorem cf_Labels_count : hn_CF y_Labels_count b_Labels_count 1 (some .int) 0 := ⟨mw_349, mw_3, by decide, by decide, by decide +kernel⟩
set_option maxHeartbeats 4000000 in
set_option maxRecDepth 100000 in
theorem c_Labels_count (l : Launch) (D : va_G) (cI cZ : ClassId) (tt : Nat → Nat) (h_this h_this_codes h_this_codes_codes h_this_ends h_this_rules h_this_tagged : Nat) (sz : Nat) (n_this_count : Int32) (n_this_codes_size : Int32) (f_this_codes_codes : Nat → Int32) (f_this_ends : Nat → Int32) (f_this_rules : Nat → Int32) (f_this_tagged : Nat → Int32) (o : Int32) (h : P_Labels_count n_this_count = some o) : Met l y_Labels_count (hn_w y_Labels_count b_Labels_count 1 (some .int)) rm_Labels_count (hn_Pc D (TY cI cZ) tt [.ref h_this] sz [(h_this, .inr (1, [.ref h_this_codes, .ref h_this_ends, .ref h_this_rules, .ref h_this_tagged, .int n_this_count])), (h_this_codes, .inr (0, [.ref h_this_codes_codes, .int n_this_codes_size])), (h_this_codes_codes, .inl (cI, 96, .inl f_this_codes_codes)), (h_this_ends, .inl (cI, 49, .inl f_this_ends)), (h_this_rules, .inl (cI, 49, .inl f_this_rules)), (h_this_tagged, .inl (cZ, 49, .inl f_this_tagged))]) (hn_Qi D [(h_this, .inr (1, [.ref h_this_codes, .ref h_this_ends, .ref h_this_rules, .ref h_this_tagged, .int n_this_count])), (h_this_codes, .inr (0, [.ref h_this_codes_codes, .int n_this_codes_size])), (h_this_codes_codes, .inl (cI, 96, .inl f_this_codes_codes)), (h_this_ends, .inl (cI, 49, .inl f_this_ends)), (h_this_rules, .inl (cI, 49, .inl f_this_rules)), (h_this_tagged, .inl (cZ, 49, .inl f_this_tagged))] sz [(h_this, .inr (1, [.ref h_this_codes, .ref h_this_ends, .ref h_this_rules, .ref h_this_tagged, .int n_this_count])), (h_this_codes, .inr (0, [.ref h_this_codes_codes, .int n_this_codes_size])), (h_this_codes_codes, .inl (cI, 96, .inl f_this_codes_codes)), (h_this_ends, .inl (cI, 49, .inl f_this_ends)), (h_this_rules, .inl (cI, 49, .inl f_this_rules)), (h_this_tagged, .inl (cZ, 49, .inl f_this_tagged))] o) 0 0 (va_A [(h_this, .inr (1, [.ref h_this_codes, .ref h_this_ends, .ref h_this_rules, .ref h_this_tagged, .int n_this_count])), (h_this_codes, .inr (0, [.ref h_this_codes_codes, .int n_this_codes_size])), (h_this_codes_codes, .inl (cI, 96, .inl f_this_codes_codes)), (h_this_ends, .inl (cI, 49, .inl f_this_ends)), (h_this_rules, .inl (cI, 49, .inl f_this_rules)), (h_this_tagged, .inl (cZ, 49, .inl f_this_tagged))] sz) := by
  refine hn_ofWi (own := R_Labels) (by decide) rfl (Nat.le_of_ble_eq_true rfl) ?_
  intro p e s m args below meth c A H locs ls Q S hE hl hret
  have hx := S.1
  have hb := S.2.1
  have hown := S.2.2.2.1
  have hl : lv_has ls 1 [(0, .ref h_this)] := hl
  unfold P_Labels_count at h
  refine lv_aload_n hx hb d_Labels_count_0 rfl (lv_at hl 0 rfl) ?_
  refine hn_get S hE kc_Labels 0 rfl rfl 4 (by decide) mw_44 rfl d_Labels_count_1 ?_
  obtain rfl := Option.some.inj h
  exact hret H locs ls 4 d_Labels_count_4 hE
abbrev rm_Labels_has : Room := { frames := 0, cells := 0, slots := 0, locals := 0 }
theorem cf_Labels_has : hn_CF y_Labels_has b_Labels_has 2 (some .boolean) 1 := ⟨mw_357, mw_3, by decide, by decide, by decide +kernel⟩
set_option maxHeartbeats 4000000 in
set_option maxRecDepth 100000 in
theorem c_Labels_has (l : Launch) (D : va_G) (cI cZ : ClassId) (tt : Nat → Nat) (h_this h_this_codes h_this_codes_codes h_this_ends h_this_rules h_this_tagged : Nat) (sz : Nat) (n_this_count : Int32) (n_this_codes_size : Int32) (f_this_codes_codes : Nat → Int32) (f_this_ends : Nat → Int32) (f_this_rules : Nat → Int32) (f_this_tagged : Nat → Int32) (a1 : Int32) (o : Int32) (h : P_Labels_has n_this_count a1 = some o) : Met l y_Labels_has (hn_w y_Labels_has b_Labels_has 2 (some .boolean)) rm_Labels_has (hn_Pc D (TY cI cZ) tt [.ref h_this, .int a1] sz [(h_this, .inr (1, [.ref h_this_codes, .ref h_this_ends, .ref h_this_rules, .ref h_this_tagged, .int n_this_count])), (h_this_codes, .inr (0, [.ref h_this_codes_codes, .int n_this_codes_size])), (h_this_codes_codes, .inl (cI, 96, .inl f_this_codes_codes)), (h_this_ends, .inl (cI, 49, .inl f_this_ends)), (h_this_rules, .inl (cI, 49, .inl f_this_rules)), (h_this_tagged, .inl (cZ, 49, .inl f_this_tagged))]) (hn_Qz D [(h_this, .inr (1, [.ref h_this_codes, .ref h_this_ends, .ref h_this_rules, .ref h_this_tagged, .int n_this_count])), (h_this_codes, .inr (0, [.ref h_this_codes_codes, .int n_this_codes_size])), (h_this_codes_codes, .inl (cI, 96, .inl f_this_codes_codes)), (h_this_ends, .inl (cI, 49, .inl f_this_ends)), (h_this_rules, .inl (cI, 49, .inl f_this_rules)), (h_this_tagged, .inl (cZ, 49, .inl f_this_tagged))] sz [(h_this, .inr (1, [.ref h_this_codes, .ref h_this_ends, .ref h_this_rules, .ref h_this_tagged, .int n_this_count])), (h_this_codes, .inr (0, [.ref h_this_codes_codes, .int n_this_codes_size])), (h_this_codes_codes, .inl (cI, 96, .inl f_this_codes_codes)), (h_this_ends, .inl (cI, 49, .inl f_this_ends)), (h_this_rules, .inl (cI, 49, .inl f_this_rules)), (h_this_tagged, .inl (cZ, 49, .inl f_this_tagged))] o) 0 0 (va_A [(h_this, .inr (1, [.ref h_this_codes, .ref h_this_ends, .ref h_this_rules, .ref h_this_tagged, .int n_this_count])), (h_this_codes, .inr (0, [.ref h_this_codes_codes, .int n_this_codes_size])), (h_this_codes_codes, .inl (cI, 96, .inl f_this_codes_codes)), (h_this_ends, .inl (cI, 49, .inl f_this_ends)), (h_this_rules, .inl (cI, 49, .inl f_this_rules)), (h_this_tagged, .inl (cZ, 49, .inl f_this_tagged))] sz) := by
  refine hn_ofWz (own := R_Labels) (by decide) rfl (Nat.le_of_ble_eq_true rfl) ?_
  intro p e s m args below meth c A H locs ls Q S hE hl hret
  have hx := S.1
  have hb := S.2.1
  have hown := S.2.2.2.1
  have hl : lv_has ls 2 [(0, .ref h_this), (1, .int a1)] := hl
  unfold P_Labels_has at h
  refine lv_iload_n hx hb d_Labels_has_0 rfl (lv_at hl 1 rfl) ?_
  refine lv_if_lt (tgt := 16) hx hb d_Labels_has_1 (by decide) (fun hc => ?_) (fun hc => ?_)
  · have h := ite_t hc h
    refine lv_iconst (v := 0) hx hb d_Labels_has_16 (by decide) ?_
    obtain rfl := Option.some.inj h
    exact hret H locs ls 17 d_Labels_has_17 narrow_b0 hE
  · have h := ite_f hc h
    refine lv_iload_n hx hb d_Labels_has_4 rfl (lv_at hl 1 rfl) ?_
    refine lv_aload_n hx hb d_Labels_has_5 rfl (lv_at hl 0 rfl) ?_
    refine hn_get S hE kc_Labels 0 rfl rfl 4 (by decide) mw_44 rfl d_Labels_has_6 ?_
    refine lv_icmp_ge (tgt := 16) hx hb d_Labels_has_9 (by decide) (fun hc => ?_) (fun hc => ?_)
    · have h := ite_t hc h
      refine lv_iconst (v := 0) hx hb d_Labels_has_16 (by decide) ?_
      obtain rfl := Option.some.inj h
      exact hret H locs ls 17 d_Labels_has_17 narrow_b0 hE
    · have h := ite_f hc h
      refine lv_iconst (v := 1) hx hb d_Labels_has_12 (by decide) ?_
      refine lv_goto (tgt := 17) hx hb d_Labels_has_13 (by decide) ?_
      obtain rfl := Option.some.inj h
      exact hret H locs ls 17 d_Labels_has_17 narrow_b1 hE
abbrev rm_Labels_copyLabel : Room := { frames := 2, cells := 0, slots := 0, locals := 45 }
theorem cf_Labels_copyLabel : hn_CF y_Labels_copyLabel b_Labels_copyLabel 3 none 2 := ⟨mw_353, mw_3, by decide, by decide, by decide +kernel⟩
set_option maxHeartbeats 4000000 in
set_option maxRecDepth 100000 in
theorem c_Labels_copyLabel (l : Launch) (D : va_G) (cI cZ : ClassId) (tt : Nat → Nat) (h_this h_this_codes h_this_codes_codes h_this_ends h_this_rules h_this_tagged h_a2 h_a2_codes : Nat) (sz : Nat) (N_a2_codes : Nat) (n_this_count : Int32) (n_this_codes_size : Int32) (f_this_codes_codes : Nat → Int32) (f_this_ends : Nat → Int32) (f_this_rules : Nat → Int32) (f_this_tagged : Nat → Int32) (n_a2_size : Int32) (f_a2_codes : Nat → Int32) (a1 : Int32) (o : Int32 × (Nat → Int32)) (h : P_Labels_copyLabel N_a2_codes n_this_count n_this_codes_size f_this_codes_codes f_this_ends f_a2_codes a1 = some o) : Met l y_Labels_copyLabel (hn_w y_Labels_copyLabel b_Labels_copyLabel 3 none) rm_Labels_copyLabel (hn_Pc D (TY cI cZ) tt [.ref h_this, .int a1, .ref h_a2] sz [(h_this, .inr (1, [.ref h_this_codes, .ref h_this_ends, .ref h_this_rules, .ref h_this_tagged, .int n_this_count])), (h_this_codes, .inr (0, [.ref h_this_codes_codes, .int n_this_codes_size])), (h_this_codes_codes, .inl (cI, 96, .inl f_this_codes_codes)), (h_this_ends, .inl (cI, 49, .inl f_this_ends)), (h_this_rules, .inl (cI, 49, .inl f_this_rules)), (h_this_tagged, .inl (cZ, 49, .inl f_this_tagged)), (h_a2, .inr (0, [.ref h_a2_codes, .int n_a2_size])), (h_a2_codes, .inl (cI, N_a2_codes, .inl f_a2_codes))]) (hn_Qv D [(h_this, .inr (1, [.ref h_this_codes, .ref h_this_ends, .ref h_this_rules, .ref h_this_tagged, .int n_this_count])), (h_this_codes, .inr (0, [.ref h_this_codes_codes, .int n_this_codes_size])), (h_this_codes_codes, .inl (cI, 96, .inl f_this_codes_codes)), (h_this_ends, .inl (cI, 49, .inl f_this_ends)), (h_this_rules, .inl (cI, 49, .inl f_this_rules)), (h_this_tagged, .inl (cZ, 49, .inl f_this_tagged)), (h_a2, .inr (0, [.ref h_a2_codes, .int n_a2_size])), (h_a2_codes, .inl (cI, N_a2_codes, .inl f_a2_codes))] sz [(h_this, .inr (1, [.ref h_this_codes, .ref h_this_ends, .ref h_this_rules, .ref h_this_tagged, .int n_this_count])), (h_this_codes, .inr (0, [.ref h_this_codes_codes, .int n_this_codes_size])), (h_this_codes_codes, .inl (cI, 96, .inl f_this_codes_codes)), (h_this_ends, .inl (cI, 49, .inl f_this_ends)), (h_this_rules, .inl (cI, 49, .inl f_this_rules)), (h_this_tagged, .inl (cZ, 49, .inl f_this_tagged)), (h_a2, .inr (0, [.ref h_a2_codes, .int o.1])), (h_a2_codes, .inl (cI, N_a2_codes, .inl o.2))]) 0 0 (va_A [(h_this, .inr (1, [.ref h_this_codes, .ref h_this_ends, .ref h_this_rules, .ref h_this_tagged, .int n_this_count])), (h_this_codes, .inr (0, [.ref h_this_codes_codes, .int n_this_codes_size])), (h_this_codes_codes, .inl (cI, 96, .inl f_this_codes_codes)), (h_this_ends, .inl (cI, 49, .inl f_this_ends)), (h_this_rules, .inl (cI, 49, .inl f_this_rules)), (h_this_tagged, .inl (cZ, 49, .inl f_this_tagged)), (h_a2, .inr (0, [.ref h_a2_codes, .int n_a2_size])), (h_a2_codes, .inl (cI, N_a2_codes, .inl f_a2_codes))] sz) := by
  refine hn_ofWv (own := R_Labels) (by decide) rfl (Nat.le_of_ble_eq_true rfl) ?_
  intro p e s m args below meth c A H locs ls Q S hE hl hret
  have hx := S.1
  have hb := S.2.1
  have hown := S.2.2.2.1
  have hl : lv_has ls 3 [(0, .ref h_this), (1, .int a1), (2, .ref h_a2)] := hl
  have hj33 : ∀ (s0 : Int32) (n_a2_size : Int32) (f_a2_codes : Nat → Int32) (H : Heap) (locs : List Loc) (ls : Array Slot), hn_E D (TY cI cZ) tt A s H locs [(h_this, .inr (1, [.ref h_this_codes, .ref h_this_ends, .ref h_this_rules, .ref h_this_tagged, .int n_this_count])), (h_this_codes, .inr (0, [.ref h_this_codes_codes, .int n_this_codes_size])), (h_this_codes_codes, .inl (cI, 96, .inl f_this_codes_codes)), (h_this_ends, .inl (cI, 49, .inl f_this_ends)), (h_this_rules, .inl (cI, 49, .inl f_this_rules)), (h_this_tagged, .inl (cZ, 49, .inl f_this_tagged)), (h_a2, .inr (0, [.ref h_a2_codes, .int n_a2_size])), (h_a2_codes, .inl (cI, N_a2_codes, .inl f_a2_codes))] → lv_has ls 3 [(0, .ref h_this), (1, .int a1)] → P_Labels_copyLabel_33 N_a2_codes n_this_codes_size f_this_codes_codes f_this_ends a1 s0 n_a2_size f_a2_codes = some o → W p l e rm_Labels_copyLabel s m args below meth c H locs 0 0 Q (F0 m 33 ls [.int s0, .ref h_this_codes, .ref h_a2]) := by
    intro s0 n_a2_size f_a2_codes H locs ls hE hl h
    unfold P_Labels_copyLabel_33 at h
    refine lv_aload_n hx hb d_Labels_copyLabel_33 rfl (lv_at hl 0 rfl) ?_
    refine hn_get S hE kc_Labels 0 rfl rfl 1 (by decide) mw_41 rfl d_Labels_copyLabel_34 ?_
    refine lv_iload_n hx hb d_Labels_copyLabel_37 rfl (lv_at hl 1 rfl) ?_
    obtain ⟨hi38, h⟩ := gi_s h
    refine hn_iald S hE 3 0 rfl rfl hi38 d_Labels_copyLabel_38 ?_
    obtain ⟨x39, hc39, h⟩ := bd_s h
    have hM := (c_Row_addPart l D cI cZ tt h_a2 h_a2_codes h_this_codes h_this_codes_codes H.size N_a2_codes 96 n_a2_size f_a2_codes n_this_codes_size f_this_codes_codes s0 (f_this_ends (a1).toNatClampNeg) x39 hc39)
    refine hn_cv hE (hn_runV (As := [.ref h_this_codes, .int s0, .int (f_this_ends (a1).toNatClampNeg)]) (rest := []) S hE hM cf_Row_addPart mw_275 mw_255 mw_256 ⟨rfl, rfl⟩ ⟨Nat.le_of_ble_eq_true rfl, Nat.le_of_ble_eq_true rfl⟩ [6, 7, 1, 2] rfl rfl rfl rfl rfl rfl hl.1 (lv_room (Nat.le_of_ble_eq_true rfl)) d_Labels_copyLabel_39 ⟨Nat.zero_le _, Nat.zero_le _⟩) [6, 7, 1, 2] rfl rfl (fun H locs hE => ?_)
    have hE : hn_E D (TY cI cZ) tt A s H locs [(h_this, .inr (1, [.ref h_this_codes, .ref h_this_ends, .ref h_this_rules, .ref h_this_tagged, .int n_this_count])), (h_this_codes, .inr (0, [.ref h_this_codes_codes, .int n_this_codes_size])), (h_this_codes_codes, .inl (cI, 96, .inl f_this_codes_codes)), (h_this_ends, .inl (cI, 49, .inl f_this_ends)), (h_this_rules, .inl (cI, 49, .inl f_this_rules)), (h_this_tagged, .inl (cZ, 49, .inl f_this_tagged)), (h_a2, .inr (0, [.ref h_a2_codes, .int x39.1])), (h_a2_codes, .inl (cI, N_a2_codes, .inl x39.2))] := hE
    obtain rfl := Option.some.inj h
    exact hret H locs ls 42 d_Labels_copyLabel_42 hE
  unfold P_Labels_copyLabel at h
  refine lv_aload_n hx hb d_Labels_copyLabel_0 rfl (lv_at hl 2 rfl) ?_
  obtain ⟨x1, hc1, h⟩ := bd_s h
  have hM := (c_Row_empty l D cI cZ tt h_a2 h_a2_codes H.size N_a2_codes n_a2_size f_a2_codes x1 hc1)
  refine hn_cv hE (hn_runV (As := []) (rest := []) S hE hM cf_Row_empty mw_253 mw_155 mw_156 ⟨rfl, rfl⟩ ⟨Nat.le_of_ble_eq_true rfl, Nat.le_of_ble_eq_true rfl⟩ [6, 7] rfl rfl rfl rfl rfl rfl hl.1 (lv_room (Nat.le_of_ble_eq_true rfl)) d_Labels_copyLabel_1 ⟨Nat.zero_le _, Nat.zero_le _⟩) [6, 7] rfl rfl (fun H locs hE => ?_)
  have hE : hn_E D (TY cI cZ) tt A s H locs [(h_this, .inr (1, [.ref h_this_codes, .ref h_this_ends, .ref h_this_rules, .ref h_this_tagged, .int n_this_count])), (h_this_codes, .inr (0, [.ref h_this_codes_codes, .int n_this_codes_size])), (h_this_codes_codes, .inl (cI, 96, .inl f_this_codes_codes)), (h_this_ends, .inl (cI, 49, .inl f_this_ends)), (h_this_rules, .inl (cI, 49, .inl f_this_rules)), (h_this_tagged, .inl (cZ, 49, .inl f_this_tagged)), (h_a2, .inr (0, [.ref h_a2_codes, .int x1])), (h_a2_codes, .inl (cI, N_a2_codes, .inl f_a2_codes))] := hE
  refine lv_aload_n hx hb d_Labels_copyLabel_4 rfl (lv_at hl 0 rfl) ?_
  refine lv_iload_n hx hb d_Labels_copyLabel_5 rfl (lv_at hl 1 rfl) ?_
  obtain ⟨x6, hc6, h⟩ := bd_s h
  have hM := (c_Labels_has l D cI cZ tt h_this h_this_codes h_this_codes_codes h_this_ends h_this_rules h_this_tagged H.size n_this_count n_this_codes_size f_this_codes_codes f_this_ends f_this_rules f_this_tagged a1 x6 hc6)
  refine hn_cz hE (hn_runV (As := [.int a1]) (rest := []) S hE hM cf_Labels_has mw_354 mw_355 mw_356 ⟨rfl, rfl⟩ ⟨Nat.le_of_ble_eq_true rfl, Nat.le_of_ble_eq_true rfl⟩ [0, 1, 2, 3, 4, 5] rfl rfl rfl rfl rfl rfl hl.1 (lv_room (Nat.le_of_ble_eq_true rfl)) d_Labels_copyLabel_6 ⟨Nat.zero_le _, Nat.zero_le _⟩) [0, 1, 2, 3, 4, 5] rfl rfl (fun H locs hz6 hE => ?_)
  have hE : hn_E D (TY cI cZ) tt A s H locs [(h_this, .inr (1, [.ref h_this_codes, .ref h_this_ends, .ref h_this_rules, .ref h_this_tagged, .int n_this_count])), (h_this_codes, .inr (0, [.ref h_this_codes_codes, .int n_this_codes_size])), (h_this_codes_codes, .inl (cI, 96, .inl f_this_codes_codes)), (h_this_ends, .inl (cI, 49, .inl f_this_ends)), (h_this_rules, .inl (cI, 49, .inl f_this_rules)), (h_this_tagged, .inl (cZ, 49, .inl f_this_tagged)), (h_a2, .inr (0, [.ref h_a2_codes, .int x1])), (h_a2_codes, .inl (cI, N_a2_codes, .inl f_a2_codes))] := hE
  refine lv_if_eq (tgt := 42) hx hb d_Labels_copyLabel_9 (by decide) (fun hc => ?_) (fun hc => ?_)
  · have h := ite_t hc h
    obtain rfl := Option.some.inj h
    exact hret H locs ls 42 d_Labels_copyLabel_42 hE
  · have h := ite_f hc h
    refine lv_aload_n hx hb d_Labels_copyLabel_12 rfl (lv_at hl 2 rfl) ?_
    refine lv_aload_n hx hb d_Labels_copyLabel_13 rfl (lv_at hl 0 rfl) ?_
    refine hn_get S hE kc_Labels 0 rfl rfl 0 (by decide) mw_40 rfl d_Labels_copyLabel_14 ?_
    refine lv_iload_n hx hb d_Labels_copyLabel_17 rfl (lv_at hl 1 rfl) ?_
    refine lv_if_ne (tgt := 25) hx hb d_Labels_copyLabel_18 (by decide) (fun hc => ?_) (fun hc => ?_)
    · have h := ite_f hc h
      refine lv_aload_n hx hb d_Labels_copyLabel_25 rfl (lv_at hl 0 rfl) ?_
      refine hn_get S hE kc_Labels 0 rfl rfl 1 (by decide) mw_41 rfl d_Labels_copyLabel_26 ?_
      refine lv_iload_n hx hb d_Labels_copyLabel_29 rfl (lv_at hl 1 rfl) ?_
      refine lv_iconst (v := 1) hx hb d_Labels_copyLabel_30 (by decide) ?_
      refine lv_isub hx hb d_Labels_copyLabel_31 ?_
      obtain ⟨hi32, h⟩ := gi_s h
      refine hn_iald S hE 3 0 rfl rfl hi32 d_Labels_copyLabel_32 ?_
      exact hj33 (f_this_ends ((a1 - (1 : Int32))).toNatClampNeg) x1 f_a2_codes H locs ls hE (lv_sub hl [0, 1] rfl) h
    · have h := ite_t hc h
      refine lv_iconst (v := 0) hx hb d_Labels_copyLabel_21 (by decide) ?_
      refine lv_goto (tgt := 33) hx hb d_Labels_copyLabel_22 (by decide) ?_
      exact hj33 (0 : Int32) x1 f_a2_codes H locs ls hE (lv_sub hl [0, 1] rfl) h
abbrev rm_Labels_rules : Room := { frames := 1, cells := 0, slots := 0, locals := 21 }
theorem cf_Labels_rules : hn_CF y_Labels_rules b_Labels_rules 2 (some .int) 1 := ⟨mw_361, mw_3, by decide, by decide, by decide +kernel⟩
set_option maxHeartbeats 4000000 in
set_option maxRecDepth 100000 in
theorem c_Labels_rules (l : Launch) (D : va_G) (cI cZ : ClassId) (tt : Nat → Nat) (h_this h_this_codes h_this_codes_codes h_this_ends h_this_rules h_this_tagged : Nat) (sz : Nat) (n_this_count : Int32) (n_this_codes_size : Int32) (f_this_codes_codes : Nat → Int32) (f_this_ends : Nat → Int32) (f_this_rules : Nat → Int32) (f_this_tagged : Nat → Int32) (a1 : Int32) (o : Int32) (h : P_Labels_rules n_this_count f_this_rules a1 = some o) : Met l y_Labels_rules (hn_w y_Labels_rules b_Labels_rules 2 (some .int)) rm_Labels_rules (hn_Pc D (TY cI cZ) tt [.ref h_this, .int a1] sz [(h_this, .inr (1, [.ref h_this_codes, .ref h_this_ends, .ref h_this_rules, .ref h_this_tagged, .int n_this_count])), (h_this_codes, .inr (0, [.ref h_this_codes_codes, .int n_this_codes_size])), (h_this_codes_codes, .inl (cI, 96, .inl f_this_codes_codes)), (h_this_ends, .inl (cI, 49, .inl f_this_ends)), (h_this_rules, .inl (cI, 49, .inl f_this_rules)), (h_this_tagged, .inl (cZ, 49, .inl f_this_tagged))]) (hn_Qi D [(h_this, .inr (1, [.ref h_this_codes, .ref h_this_ends, .ref h_this_rules, .ref h_this_tagged, .int n_this_count])), (h_this_codes, .inr (0, [.ref h_this_codes_codes, .int n_this_codes_size])), (h_this_codes_codes, .inl (cI, 96, .inl f_this_codes_codes)), (h_this_ends, .inl (cI, 49, .inl f_this_ends)), (h_this_rules, .inl (cI, 49, .inl f_this_rules)), (h_this_tagged, .inl (cZ, 49, .inl f_this_tagged))] sz [(h_this, .inr (1, [.ref h_this_codes, .ref h_this_ends, .ref h_this_rules, .ref h_this_tagged, .int n_this_count])), (h_this_codes, .inr (0, [.ref h_this_codes_codes, .int n_this_codes_size])), (h_this_codes_codes, .inl (cI, 96, .inl f_this_codes_codes)), (h_this_ends, .inl (cI, 49, .inl f_this_ends)), (h_this_rules, .inl (cI, 49, .inl f_this_rules)), (h_this_tagged, .inl (cZ, 49, .inl f_this_tagged))] o) 0 0 (va_A [(h_this, .inr (1, [.ref h_this_codes, .ref h_this_ends, .ref h_this_rules, .ref h_this_tagged, .int n_this_count])), (h_this_codes, .inr (0, [.ref h_this_codes_codes, .int n_this_codes_size])), (h_this_codes_codes, .inl (cI, 96, .inl f_this_codes_codes)), (h_this_ends, .inl (cI, 49, .inl f_this_ends)), (h_this_rules, .inl (cI, 49, .inl f_this_rules)), (h_this_tagged, .inl (cZ, 49, .inl f_this_tagged))] sz) := by
  refine hn_ofWi (own := R_Labels) (by decide) rfl (Nat.le_of_ble_eq_true rfl) ?_
  intro p e s m args below meth c A H locs ls Q S hE hl hret
  have hx := S.1
  have hb := S.2.1
  have hown := S.2.2.2.1
  have hl : lv_has ls 2 [(0, .ref h_this), (1, .int a1)] := hl
  unfold P_Labels_rules at h
  refine lv_aload_n hx hb d_Labels_rules_0 rfl (lv_at hl 0 rfl) ?_
  refine lv_iload_n hx hb d_Labels_rules_1 rfl (lv_at hl 1 rfl) ?_
  obtain ⟨x2, hc2, h⟩ := bd_s h
  have hM := (c_Labels_has l D cI cZ tt h_this h_this_codes h_this_codes_codes h_this_ends h_this_rules h_this_tagged H.size n_this_count n_this_codes_size f_this_codes_codes f_this_ends f_this_rules f_this_tagged a1 x2 hc2)
  refine hn_cz hE (hn_runV (As := [.int a1]) (rest := []) S hE hM cf_Labels_has mw_354 mw_355 mw_356 ⟨rfl, rfl⟩ ⟨Nat.le_of_ble_eq_true rfl, Nat.le_of_ble_eq_true rfl⟩ [0, 1, 2, 3, 4, 5] rfl rfl rfl rfl rfl rfl hl.1 (lv_room (Nat.le_of_ble_eq_true rfl)) d_Labels_rules_2 ⟨Nat.zero_le _, Nat.zero_le _⟩) [0, 1, 2, 3, 4, 5] rfl rfl (fun H locs hz2 hE => ?_)
  have hE : hn_E D (TY cI cZ) tt A s H locs [(h_this, .inr (1, [.ref h_this_codes, .ref h_this_ends, .ref h_this_rules, .ref h_this_tagged, .int n_this_count])), (h_this_codes, .inr (0, [.ref h_this_codes_codes, .int n_this_codes_size])), (h_this_codes_codes, .inl (cI, 96, .inl f_this_codes_codes)), (h_this_ends, .inl (cI, 49, .inl f_this_ends)), (h_this_rules, .inl (cI, 49, .inl f_this_rules)), (h_this_tagged, .inl (cZ, 49, .inl f_this_tagged))] := hE
  refine lv_if_eq (tgt := 17) hx hb d_Labels_rules_5 (by decide) (fun hc => ?_) (fun hc => ?_)
  · have h := ite_t hc h
    refine lv_iconst (v := -1) hx hb d_Labels_rules_17 (by decide) ?_
    obtain rfl := Option.some.inj h
    exact hret H locs ls 18 d_Labels_rules_18 hE
  · have h := ite_f hc h
    refine lv_aload_n hx hb d_Labels_rules_8 rfl (lv_at hl 0 rfl) ?_
    refine hn_get S hE kc_Labels 0 rfl rfl 2 (by decide) mw_42 rfl d_Labels_rules_9 ?_
    refine lv_iload_n hx hb d_Labels_rules_12 rfl (lv_at hl 1 rfl) ?_
    obtain ⟨hi13, h⟩ := gi_s h
    refine hn_iald S hE 4 0 rfl rfl hi13 d_Labels_rules_13 ?_
    refine lv_goto (tgt := 18) hx hb d_Labels_rules_14 (by decide) ?_
    obtain rfl := Option.some.inj h
    exact hret H locs ls 18 d_Labels_rules_18 hE
abbrev rm_Labels_wasTagged : Room := { frames := 1, cells := 0, slots := 0, locals := 21 }
theorem cf_Labels_wasTagged : hn_CF y_Labels_wasTagged b_Labels_wasTagged 2 (some .boolean) 1 := ⟨mw_365, mw_3, by decide, by decide, by decide +kernel⟩
set_option maxHeartbeats 4000000 in
set_option maxRecDepth 100000 in
theorem c_Labels_wasTagged (l : Launch) (D : va_G) (cI cZ : ClassId) (tt : Nat → Nat) (h_this h_this_codes h_this_codes_codes h_this_ends h_this_rules h_this_tagged : Nat) (sz : Nat) (n_this_count : Int32) (n_this_codes_size : Int32) (f_this_codes_codes : Nat → Int32) (f_this_ends : Nat → Int32) (f_this_rules : Nat → Int32) (f_this_tagged : Nat → Int32) (a1 : Int32) (o : Int32) (h : P_Labels_wasTagged n_this_count f_this_tagged a1 = some o) : Met l y_Labels_wasTagged (hn_w y_Labels_wasTagged b_Labels_wasTagged 2 (some .boolean)) rm_Labels_wasTagged (hn_Pc D (TY cI cZ) tt [.ref h_this, .int a1] sz [(h_this, .inr (1, [.ref h_this_codes, .ref h_this_ends, .ref h_this_rules, .ref h_this_tagged, .int n_this_count])), (h_this_codes, .inr (0, [.ref h_this_codes_codes, .int n_this_codes_size])), (h_this_codes_codes, .inl (cI, 96, .inl f_this_codes_codes)), (h_this_ends, .inl (cI, 49, .inl f_this_ends)), (h_this_rules, .inl (cI, 49, .inl f_this_rules)), (h_this_tagged, .inl (cZ, 49, .inl f_this_tagged))]) (hn_Qz D [(h_this, .inr (1, [.ref h_this_codes, .ref h_this_ends, .ref h_this_rules, .ref h_this_tagged, .int n_this_count])), (h_this_codes, .inr (0, [.ref h_this_codes_codes, .int n_this_codes_size])), (h_this_codes_codes, .inl (cI, 96, .inl f_this_codes_codes)), (h_this_ends, .inl (cI, 49, .inl f_this_ends)), (h_this_rules, .inl (cI, 49, .inl f_this_rules)), (h_this_tagged, .inl (cZ, 49, .inl f_this_tagged))] sz [(h_this, .inr (1, [.ref h_this_codes, .ref h_this_ends, .ref h_this_rules, .ref h_this_tagged, .int n_this_count])), (h_this_codes, .inr (0, [.ref h_this_codes_codes, .int n_this_codes_size])), (h_this_codes_codes, .inl (cI, 96, .inl f_this_codes_codes)), (h_this_ends, .inl (cI, 49, .inl f_this_ends)), (h_this_rules, .inl (cI, 49, .inl f_this_rules)), (h_this_tagged, .inl (cZ, 49, .inl f_this_tagged))] o) 0 0 (va_A [(h_this, .inr (1, [.ref h_this_codes, .ref h_this_ends, .ref h_this_rules, .ref h_this_tagged, .int n_this_count])), (h_this_codes, .inr (0, [.ref h_this_codes_codes, .int n_this_codes_size])), (h_this_codes_codes, .inl (cI, 96, .inl f_this_codes_codes)), (h_this_ends, .inl (cI, 49, .inl f_this_ends)), (h_this_rules, .inl (cI, 49, .inl f_this_rules)), (h_this_tagged, .inl (cZ, 49, .inl f_this_tagged))] sz) := by
  refine hn_ofWz (own := R_Labels) (by decide) rfl (Nat.le_of_ble_eq_true rfl) ?_
  intro p e s m args below meth c A H locs ls Q S hE hl hret
  have hx := S.1
  have hb := S.2.1
  have hown := S.2.2.2.1
  have hl : lv_has ls 2 [(0, .ref h_this), (1, .int a1)] := hl
  unfold P_Labels_wasTagged at h
  refine lv_aload_n hx hb d_Labels_wasTagged_0 rfl (lv_at hl 0 rfl) ?_
  refine lv_iload_n hx hb d_Labels_wasTagged_1 rfl (lv_at hl 1 rfl) ?_
  obtain ⟨x2, hc2, h⟩ := bd_s h
  have hM := (c_Labels_has l D cI cZ tt h_this h_this_codes h_this_codes_codes h_this_ends h_this_rules h_this_tagged H.size n_this_count n_this_codes_size f_this_codes_codes f_this_ends f_this_rules f_this_tagged a1 x2 hc2)
  refine hn_cz hE (hn_runV (As := [.int a1]) (rest := []) S hE hM cf_Labels_has mw_354 mw_355 mw_356 ⟨rfl, rfl⟩ ⟨Nat.le_of_ble_eq_true rfl, Nat.le_of_ble_eq_true rfl⟩ [0, 1, 2, 3, 4, 5] rfl rfl rfl rfl rfl rfl hl.1 (lv_room (Nat.le_of_ble_eq_true rfl)) d_Labels_wasTagged_2 ⟨Nat.zero_le _, Nat.zero_le _⟩) [0, 1, 2, 3, 4, 5] rfl rfl (fun H locs hz2 hE => ?_)
  have hE : hn_E D (TY cI cZ) tt A s H locs [(h_this, .inr (1, [.ref h_this_codes, .ref h_this_ends, .ref h_this_rules, .ref h_this_tagged, .int n_this_count])), (h_this_codes, .inr (0, [.ref h_this_codes_codes, .int n_this_codes_size])), (h_this_codes_codes, .inl (cI, 96, .inl f_this_codes_codes)), (h_this_ends, .inl (cI, 49, .inl f_this_ends)), (h_this_rules, .inl (cI, 49, .inl f_this_rules)), (h_this_tagged, .inl (cZ, 49, .inl f_this_tagged))] := hE
  refine lv_if_eq (tgt := 21) hx hb d_Labels_wasTagged_5 (by decide) (fun hc => ?_) (fun hc => ?_)
  · have h := ite_t hc h
    refine lv_iconst (v := 0) hx hb d_Labels_wasTagged_21 (by decide) ?_
    obtain rfl := Option.some.inj h
    exact hret H locs ls 22 d_Labels_wasTagged_22 narrow_b0 hE
  · have h := ite_f hc h
    refine lv_aload_n hx hb d_Labels_wasTagged_8 rfl (lv_at hl 0 rfl) ?_
    refine hn_get S hE kc_Labels 0 rfl rfl 3 (by decide) mw_43 rfl d_Labels_wasTagged_9 ?_
    refine lv_iload_n hx hb d_Labels_wasTagged_12 rfl (lv_at hl 1 rfl) ?_
    obtain ⟨hi13, h⟩ := gi_s h
    refine hn_zald S hE 5 1 rfl rfl hi13 d_Labels_wasTagged_13 ?_
    refine lv_if_eq (tgt := 21) hx hb d_Labels_wasTagged_14 (by decide) (fun hc => ?_) (fun hc => ?_)
    · have h := ite_t hc h
      refine lv_iconst (v := 0) hx hb d_Labels_wasTagged_21 (by decide) ?_
      obtain rfl := Option.some.inj h
      exact hret H locs ls 22 d_Labels_wasTagged_22 narrow_b0 hE
    · have h := ite_f hc h
      refine lv_iconst (v := 1) hx hb d_Labels_wasTagged_17 (by decide) ?_
      refine lv_goto (tgt := 22) hx hb d_Labels_wasTagged_18 (by decide) ?_
      obtain rfl := Option.some.inj h
      exact hret H locs ls 22 d_Labels_wasTagged_22 narrow_b1 hE
abbrev rm_Labels_addRules : Room := { frames := 1, cells := 0, slots := 0, locals := 21 }
theorem cf_Labels_addRules : hn_CF y_Labels_addRules b_Labels_addRules 3 none 2 := ⟨mw_407, mw_3, by decide, by decide, by decide +kernel⟩
set_option maxHeartbeats 4000000 in
set_option maxRecDepth 100000 in
theorem c_Labels_addRules (l : Launch) (D : va_G) (cI cZ : ClassId) (tt : Nat → Nat) (h_this h_this_codes h_this_codes_codes h_this_ends h_this_rules h_this_tagged : Nat) (sz : Nat) (n_this_count : Int32) (n_this_codes_size : Int32) (f_this_codes_codes : Nat → Int32) (f_this_ends : Nat → Int32) (f_this_rules : Nat → Int32) (f_this_tagged : Nat → Int32) (a1 : Int32) (a2 : Int32) (o : (Nat → Int32)) (h : P_Labels_addRules n_this_count f_this_rules a1 a2 = some o) : Met l y_Labels_addRules (hn_w y_Labels_addRules b_Labels_addRules 3 none) rm_Labels_addRules (hn_Pc D (TY cI cZ) tt [.ref h_this, .int a1, .int a2] sz [(h_this, .inr (1, [.ref h_this_codes, .ref h_this_ends, .ref h_this_rules, .ref h_this_tagged, .int n_this_count])), (h_this_codes, .inr (0, [.ref h_this_codes_codes, .int n_this_codes_size])), (h_this_codes_codes, .inl (cI, 96, .inl f_this_codes_codes)), (h_this_ends, .inl (cI, 49, .inl f_this_ends)), (h_this_rules, .inl (cI, 49, .inl f_this_rules)), (h_this_tagged, .inl (cZ, 49, .inl f_this_tagged))]) (hn_Qv D [(h_this, .inr (1, [.ref h_this_codes, .ref h_this_ends, .ref h_this_rules, .ref h_this_tagged, .int n_this_count])), (h_this_codes, .inr (0, [.ref h_this_codes_codes, .int n_this_codes_size])), (h_this_codes_codes, .inl (cI, 96, .inl f_this_codes_codes)), (h_this_ends, .inl (cI, 49, .inl f_this_ends)), (h_this_rules, .inl (cI, 49, .inl f_this_rules)), (h_this_tagged, .inl (cZ, 49, .inl f_this_tagged))] sz [(h_this, .inr (1, [.ref h_this_codes, .ref h_this_ends, .ref h_this_rules, .ref h_this_tagged, .int n_this_count])), (h_this_codes, .inr (0, [.ref h_this_codes_codes, .int n_this_codes_size])), (h_this_codes_codes, .inl (cI, 96, .inl f_this_codes_codes)), (h_this_ends, .inl (cI, 49, .inl f_this_ends)), (h_this_rules, .inl (cI, 49, .inl o)), (h_this_tagged, .inl (cZ, 49, .inl f_this_tagged))]) 0 0 (va_A [(h_this, .inr (1, [.ref h_this_codes, .ref h_this_ends, .ref h_this_rules, .ref h_this_tagged, .int n_this_count])), (h_this_codes, .inr (0, [.ref h_this_codes_codes, .int n_this_codes_size])), (h_this_codes_codes, .inl (cI, 96, .inl f_this_codes_codes)), (h_this_ends, .inl (cI, 49, .inl f_this_ends)), (h_this_rules, .inl (cI, 49, .inl f_this_rules)), (h_this_tagged, .inl (cZ, 49, .inl f_this_tagged))] sz) := by
  refine hn_ofWv (own := R_Labels) (by decide) rfl (Nat.le_of_ble_eq_true rfl) ?_
  intro p e s m args below meth c A H locs ls Q S hE hl hret
  have hx := S.1
  have hb := S.2.1
  have hown := S.2.2.2.1
  have hl : lv_has ls 3 [(0, .ref h_this), (1, .int a1), (2, .int a2)] := hl
  unfold P_Labels_addRules at h
  refine lv_aload_n hx hb d_Labels_addRules_0 rfl (lv_at hl 0 rfl) ?_
  refine lv_iload_n hx hb d_Labels_addRules_1 rfl (lv_at hl 1 rfl) ?_
  obtain ⟨x2, hc2, h⟩ := bd_s h
  have hM := (c_Labels_has l D cI cZ tt h_this h_this_codes h_this_codes_codes h_this_ends h_this_rules h_this_tagged H.size n_this_count n_this_codes_size f_this_codes_codes f_this_ends f_this_rules f_this_tagged a1 x2 hc2)
  refine hn_cz hE (hn_runV (As := [.int a1]) (rest := []) S hE hM cf_Labels_has mw_354 mw_355 mw_356 ⟨rfl, rfl⟩ ⟨Nat.le_of_ble_eq_true rfl, Nat.le_of_ble_eq_true rfl⟩ [0, 1, 2, 3, 4, 5] rfl rfl rfl rfl rfl rfl hl.1 (lv_room (Nat.le_of_ble_eq_true rfl)) d_Labels_addRules_2 ⟨Nat.zero_le _, Nat.zero_le _⟩) [0, 1, 2, 3, 4, 5] rfl rfl (fun H locs hz2 hE => ?_)
  have hE : hn_E D (TY cI cZ) tt A s H locs [(h_this, .inr (1, [.ref h_this_codes, .ref h_this_ends, .ref h_this_rules, .ref h_this_tagged, .int n_this_count])), (h_this_codes, .inr (0, [.ref h_this_codes_codes, .int n_this_codes_size])), (h_this_codes_codes, .inl (cI, 96, .inl f_this_codes_codes)), (h_this_ends, .inl (cI, 49, .inl f_this_ends)), (h_this_rules, .inl (cI, 49, .inl f_this_rules)), (h_this_tagged, .inl (cZ, 49, .inl f_this_tagged))] := hE
  refine lv_if_eq (tgt := 18) hx hb d_Labels_addRules_5 (by decide) (fun hc => ?_) (fun hc => ?_)
  · have h := ite_t hc h
    obtain rfl := Option.some.inj h
    exact hret H locs ls 18 d_Labels_addRules_18 hE
  · have h := ite_f hc h
    refine lv_aload_n hx hb d_Labels_addRules_8 rfl (lv_at hl 0 rfl) ?_
    refine hn_get S hE kc_Labels 0 rfl rfl 2 (by decide) mw_42 rfl d_Labels_addRules_9 ?_
    refine lv_iload_n hx hb d_Labels_addRules_12 rfl (lv_at hl 1 rfl) ?_
    refine lv_dup2_11 hx hb d_Labels_addRules_13 rfl rfl ?_
    obtain ⟨hi14, h⟩ := gi_s h
    refine hn_iald S hE 4 0 rfl rfl hi14 d_Labels_addRules_14 ?_
    refine lv_iload_n hx hb d_Labels_addRules_15 rfl (lv_at hl 2 rfl) ?_
    refine lv_ior hx hb d_Labels_addRules_16 ?_
    obtain ⟨hi17, h⟩ := gi_s h
    refine hn_iast S hE 4 0 rfl rfl hi17 d_Labels_addRules_17 (fun H locs hE => ?_)
    have hE : hn_E D (TY cI cZ) tt A s H locs [(h_this, .inr (1, [.ref h_this_codes, .ref h_this_ends, .ref h_this_rules, .ref h_this_tagged, .int n_this_count])), (h_this_codes, .inr (0, [.ref h_this_codes_codes, .int n_this_codes_size])), (h_this_codes_codes, .inl (cI, 96, .inl f_this_codes_codes)), (h_this_ends, .inl (cI, 49, .inl f_this_ends)), (h_this_rules, .inl (cI, 49, .inl (upd f_this_rules (a1).toNatClampNeg ((f_this_rules (a1).toNatClampNeg) ||| a2)))), (h_this_tagged, .inl (cZ, 49, .inl f_this_tagged))] := hE
    obtain rfl := Option.some.inj h
    exact hret H locs ls 18 d_Labels_addRules_18 hE
abbrev rm_Labels_allRules : Room := { frames := 0, cells := 0, slots := 0, locals := 0 }
theorem cf_Labels_allRules : hn_CF y_Labels_allRules b_Labels_allRules 3 (some .int) 0 := ⟨mw_449, mw_3, by decide, by decide, by decide +kernel⟩
set_option maxHeartbeats 4000000 in
set_option maxRecDepth 100000 in
theorem c_Labels_allRules (l : Launch) (D : va_G) (cI cZ : ClassId) (tt : Nat → Nat) (h_this h_this_codes h_this_codes_codes h_this_ends h_this_rules h_this_tagged : Nat) (sz : Nat) (n_this_count : Int32) (n_this_codes_size : Int32) (f_this_codes_codes : Nat → Int32) (f_this_ends : Nat → Int32) (f_this_rules : Nat → Int32) (f_this_tagged : Nat → Int32) (o : Int32) (h : P_Labels_allRules n_this_count f_this_rules = some o) : Met l y_Labels_allRules (hn_w y_Labels_allRules b_Labels_allRules 3 (some .int)) rm_Labels_allRules (hn_Pc D (TY cI cZ) tt [.ref h_this] sz [(h_this, .inr (1, [.ref h_this_codes, .ref h_this_ends, .ref h_this_rules, .ref h_this_tagged, .int n_this_count])), (h_this_codes, .inr (0, [.ref h_this_codes_codes, .int n_this_codes_size])), (h_this_codes_codes, .inl (cI, 96, .inl f_this_codes_codes)), (h_this_ends, .inl (cI, 49, .inl f_this_ends)), (h_this_rules, .inl (cI, 49, .inl f_this_rules)), (h_this_tagged, .inl (cZ, 49, .inl f_this_tagged))]) (hn_Qi D [(h_this, .inr (1, [.ref h_this_codes, .ref h_this_ends, .ref h_this_rules, .ref h_this_tagged, .int n_this_count])), (h_this_codes, .inr (0, [.ref h_this_codes_codes, .int n_this_codes_size])), (h_this_codes_codes, .inl (cI, 96, .inl f_this_codes_codes)), (h_this_ends, .inl (cI, 49, .inl f_this_ends)), (h_this_rules, .inl (cI, 49, .inl f_this_rules)), (h_this_tagged, .inl (cZ, 49, .inl f_this_tagged))] sz [(h_this, .inr (1, [.ref h_this_codes, .ref h_this_ends, .ref h_this_rules, .ref h_this_tagged, .int n_this_count])), (h_this_codes, .inr (0, [.ref h_this_codes_codes, .int n_this_codes_size])), (h_this_codes_codes, .inl (cI, 96, .inl f_this_codes_codes)), (h_this_ends, .inl (cI, 49, .inl f_this_ends)), (h_this_rules, .inl (cI, 49, .inl f_this_rules)), (h_this_tagged, .inl (cZ, 49, .inl f_this_tagged))] o) 0 0 (va_A [(h_this, .inr (1, [.ref h_this_codes, .ref h_this_ends, .ref h_this_rules, .ref h_this_tagged, .int n_this_count])), (h_this_codes, .inr (0, [.ref h_this_codes_codes, .int n_this_codes_size])), (h_this_codes_codes, .inl (cI, 96, .inl f_this_codes_codes)), (h_this_ends, .inl (cI, 49, .inl f_this_ends)), (h_this_rules, .inl (cI, 49, .inl f_this_rules)), (h_this_tagged, .inl (cZ, 49, .inl f_this_tagged))] sz) := by
  refine hn_ofWi (own := R_Labels) (by decide) rfl (Nat.le_of_ble_eq_true rfl) ?_
  intro p e s m args below meth c A H locs ls Q S hE hl hret
  have hx := S.1
  have hb := S.2.1
  have hown := S.2.2.2.1
  have hl : lv_has ls 3 [(0, .ref h_this)] := hl
  have hL4 : ∀ (kf : Nat) (v1 : Int32) (v2 : Int32) (H : Heap) (locs : List Loc) (ls : Array Slot), hn_E D (TY cI cZ) tt A s H locs [(h_this, .inr (1, [.ref h_this_codes, .ref h_this_ends, .ref h_this_rules, .ref h_this_tagged, .int n_this_count])), (h_this_codes, .inr (0, [.ref h_this_codes_codes, .int n_this_codes_size])), (h_this_codes_codes, .inl (cI, 96, .inl f_this_codes_codes)), (h_this_ends, .inl (cI, 49, .inl f_this_ends)), (h_this_rules, .inl (cI, 49, .inl f_this_rules)), (h_this_tagged, .inl (cZ, 49, .inl f_this_tagged))] → lv_has ls 3 [(0, .ref h_this), (1, .int v1), (2, .int v2)] → fl2 (P_Labels_allRules_4 n_this_count f_this_rules) kf v1 v2 = some o → W p l e rm_Labels_allRules s m args below meth c H locs 0 0 Q (F0 m 4 ls []) := by
    intro kf
    induction kf with
    | zero => intro v1 v2 H locs ls hE hl h; exact no_s h
    | succ kf ih =>
      intro v1 v2 H locs ls hE hl h
      have h : P_Labels_allRules_4 n_this_count f_this_rules (fl2 (P_Labels_allRules_4 n_this_count f_this_rules) kf) v1 v2 = some o := h
      generalize fl2 (P_Labels_allRules_4 n_this_count f_this_rules) kf = k4 at ih h
      have hk4 := ih
      unfold P_Labels_allRules_4 at h
      refine lv_iload_n hx hb d_Labels_allRules_4 rfl (lv_at hl 2 rfl) ?_
      refine lv_aload_n hx hb d_Labels_allRules_5 rfl (lv_at hl 0 rfl) ?_
      refine hn_get S hE kc_Labels 0 rfl rfl 4 (by decide) mw_44 rfl d_Labels_allRules_6 ?_
      refine lv_icmp_ge (tgt := 27) hx hb d_Labels_allRules_9 (by decide) (fun hc => ?_) (fun hc => ?_)
      · have h := ite_t hc h
        refine lv_iload_n hx hb d_Labels_allRules_27 rfl (lv_at hl 1 rfl) ?_
        obtain rfl := Option.some.inj h
        exact hret H locs ls 28 d_Labels_allRules_28 hE
      · have h := ite_f hc h
        refine lv_iload_n hx hb d_Labels_allRules_12 rfl (lv_at hl 1 rfl) ?_
        refine lv_aload_n hx hb d_Labels_allRules_13 rfl (lv_at hl 0 rfl) ?_
        refine hn_get S hE kc_Labels 0 rfl rfl 2 (by decide) mw_42 rfl d_Labels_allRules_14 ?_
        refine lv_iload_n hx hb d_Labels_allRules_17 rfl (lv_at hl 2 rfl) ?_
        obtain ⟨hi18, h⟩ := gi_s h
        refine hn_iald S hE 4 0 rfl rfl hi18 d_Labels_allRules_18 ?_
        refine lv_ior hx hb d_Labels_allRules_19 ?_
        refine lv_istore_n (lv' := [(1, .int (v1 ||| (f_this_rules (v2).toNatClampNeg))), (0, .ref h_this), (2, .int v2)]) hx hb d_Labels_allRules_20 rfl hl (by decide) rfl (fun ls hl => ?_)
        refine lv_iinc (v := (v2 + (1 : Int32))) (lv' := [(2, .int (v2 + (1 : Int32))), (1, .int (v1 ||| (f_this_rules (v2).toNatClampNeg))), (0, .ref h_this)]) hx hb d_Labels_allRules_21 hl (k := 2) rfl rfl (by decide) rfl (fun ls hl => ?_)
        refine lv_goto (tgt := 4) hx hb d_Labels_allRules_24 (by decide) ?_
        exact hk4 (v1 ||| (f_this_rules (v2).toNatClampNeg)) (v2 + (1 : Int32)) H locs ls hE (lv_sub hl [2, 1, 0] rfl) h
  unfold P_Labels_allRules at h
  refine lv_iconst (v := 0) hx hb d_Labels_allRules_0 (by decide) ?_
  refine lv_istore_n (lv' := [(1, .int (0 : Int32)), (0, .ref h_this)]) hx hb d_Labels_allRules_1 rfl hl (by decide) rfl (fun ls hl => ?_)
  refine lv_iconst (v := 0) hx hb d_Labels_allRules_2 (by decide) ?_
  refine lv_istore_n (lv' := [(2, .int (0 : Int32)), (1, .int (0 : Int32)), (0, .ref h_this)]) hx hb d_Labels_allRules_3 rfl hl (by decide) rfl (fun ls hl => ?_)
  exact hL4 fu (0 : Int32) (0 : Int32) H locs ls hE (lv_sub hl [2, 1, 0] rfl) h
end
