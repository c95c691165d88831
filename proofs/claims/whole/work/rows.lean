section
-- ===== PART A: goes FIRST, ahead of the names: the tables' words, and 'selects' of the private methods out of them =====
/-- a private method of a class that the tables say can be made, by its rows of tables_1 -/
def lw_okq (q : MethodName × Nat) : Prop := (q.1.cls ≠ "java/lang/invoke/MethodHandle" ∧ q.1.cls ≠ "java/lang/invoke/VarHandle") ∧ Cond.instantiable q.1.cls q.2 ∈ tables_1 ∧ Cond.privateMethod q.1 ∈ tables_1 ∧ Cond.instanceMethod q.1 ∈ tables_1
theorem lw_p0 : lw_okq (⟨"HayWriting", "takeBytes", "(I)V"⟩, 14) := ⟨⟨by decide +kernel, by decide +kernel⟩, List.mem_of_getElem? (i := 27) (by decide +kernel), List.mem_of_getElem? (i := 575) (by decide +kernel), List.mem_of_getElem? (i := 576) (by decide +kernel)⟩
theorem lw_p1 : lw_okq (⟨"HayWriting$Tokens", "skipBlanks", "()V"⟩, 6) := ⟨⟨by decide +kernel, by decide +kernel⟩, List.mem_of_getElem? (i := 35) (by decide +kernel), List.mem_of_getElem? (i := 590) (by decide +kernel), List.mem_of_getElem? (i := 591) (by decide +kernel)⟩
theorem lw_p2 : lw_okq (⟨"HayWriting$Tokens", "takeToken", "(I)V"⟩, 6) := ⟨⟨by decide +kernel, by decide +kernel⟩, List.mem_of_getElem? (i := 35) (by decide +kernel), List.mem_of_getElem? (i := 594) (by decide +kernel), List.mem_of_getElem? (i := 595) (by decide +kernel)⟩
theorem lw_p3 : lw_okq (⟨"HayWriting$Tokens", "takeNumber", "(I)V"⟩, 6) := ⟨⟨by decide +kernel, by decide +kernel⟩, List.mem_of_getElem? (i := 35) (by decide +kernel), List.mem_of_getElem? (i := 601) (by decide +kernel), List.mem_of_getElem? (i := 602) (by decide +kernel)⟩
theorem lw_p4 : lw_okq (⟨"HayWriting$Tokens", "takeWord", "(I)V"⟩, 6) := ⟨⟨by decide +kernel, by decide +kernel⟩, List.mem_of_getElem? (i := 35) (by decide +kernel), List.mem_of_getElem? (i := 609) (by decide +kernel), List.mem_of_getElem? (i := 610) (by decide +kernel)⟩
theorem lw_p5 : lw_okq (⟨"HayWriting$Tokens", "signAt", "()I"⟩, 6) := ⟨⟨by decide +kernel, by decide +kernel⟩, List.mem_of_getElem? (i := 35) (by decide +kernel), List.mem_of_getElem? (i := 671) (by decide +kernel), List.mem_of_getElem? (i := 672) (by decide +kernel)⟩
theorem lw_p6 : lw_okq (⟨"HayWriting$Tokens", "lessAt", "(I)I"⟩, 6) := ⟨⟨by decide +kernel, by decide +kernel⟩, List.mem_of_getElem? (i := 35) (by decide +kernel), List.mem_of_getElem? (i := 675) (by decide +kernel), List.mem_of_getElem? (i := 676) (by decide +kernel)⟩
theorem lw_p7 : lw_okq (⟨"HayWriting$Tokens", "moreAt", "(I)I"⟩, 6) := ⟨⟨by decide +kernel, by decide +kernel⟩, List.mem_of_getElem? (i := 35) (by decide +kernel), List.mem_of_getElem? (i := 679) (by decide +kernel), List.mem_of_getElem? (i := 680) (by decide +kernel)⟩
theorem lw_p8 : lw_okq (⟨"HayWriting$Reader", "kindHere", "()I"⟩, 10) := ⟨⟨by decide +kernel, by decide +kernel⟩, List.mem_of_getElem? (i := 307) (by decide +kernel), List.mem_of_getElem? (i := 688) (by decide +kernel), List.mem_of_getElem? (i := 689) (by decide +kernel)⟩
theorem lw_p9 : lw_okq (⟨"HayWriting$Reader", "readLine", "()Z"⟩, 10) := ⟨⟨by decide +kernel, by decide +kernel⟩, List.mem_of_getElem? (i := 307) (by decide +kernel), List.mem_of_getElem? (i := 692) (by decide +kernel), List.mem_of_getElem? (i := 693) (by decide +kernel)⟩
theorem lw_p10 : lw_okq (⟨"HayWriting$Reader", "readListed", "(I)Z"⟩, 10) := ⟨⟨by decide +kernel, by decide +kernel⟩, List.mem_of_getElem? (i := 307) (by decide +kernel), List.mem_of_getElem? (i := 696) (by decide +kernel), List.mem_of_getElem? (i := 697) (by decide +kernel)⟩
theorem lw_p11 : lw_okq (⟨"HayWriting$Reader", "isFull", "(I)Z"⟩, 10) := ⟨⟨by decide +kernel, by decide +kernel⟩, List.mem_of_getElem? (i := 307) (by decide +kernel), List.mem_of_getElem? (i := 700) (by decide +kernel), List.mem_of_getElem? (i := 701) (by decide +kernel)⟩
theorem lw_p12 : lw_okq (⟨"HayWriting$Reader", "refused", "(I)Z"⟩, 10) := ⟨⟨by decide +kernel, by decide +kernel⟩, List.mem_of_getElem? (i := 307) (by decide +kernel), List.mem_of_getElem? (i := 704) (by decide +kernel), List.mem_of_getElem? (i := 705) (by decide +kernel)⟩
theorem lw_p13 : lw_okq (⟨"HayWriting$Reader", "goOn", "()V"⟩, 10) := ⟨⟨by decide +kernel, by decide +kernel⟩, List.mem_of_getElem? (i := 307) (by decide +kernel), List.mem_of_getElem? (i := 708) (by decide +kernel), List.mem_of_getElem? (i := 709) (by decide +kernel)⟩
theorem lw_p14 : lw_okq (⟨"HayWriting$Reader", "readOwner", "()Z"⟩, 10) := ⟨⟨by decide +kernel, by decide +kernel⟩, List.mem_of_getElem? (i := 307) (by decide +kernel), List.mem_of_getElem? (i := 712) (by decide +kernel), List.mem_of_getElem? (i := 713) (by decide +kernel)⟩
theorem lw_p15 : lw_okq (⟨"HayWriting$Reader", "readNewName", "([II)I"⟩, 10) := ⟨⟨by decide +kernel, by decide +kernel⟩, List.mem_of_getElem? (i := 307) (by decide +kernel), List.mem_of_getElem? (i := 716) (by decide +kernel), List.mem_of_getElem? (i := 717) (by decide +kernel)⟩
def lw_privs_1 : List (MethodName × Nat) := [(⟨"HayWriting", "takeBytes", "(I)V"⟩, 14), (⟨"HayWriting$Tokens", "skipBlanks", "()V"⟩, 6), (⟨"HayWriting$Tokens", "takeToken", "(I)V"⟩, 6), (⟨"HayWriting$Tokens", "takeNumber", "(I)V"⟩, 6), (⟨"HayWriting$Tokens", "takeWord", "(I)V"⟩, 6), (⟨"HayWriting$Tokens", "signAt", "()I"⟩, 6), (⟨"HayWriting$Tokens", "lessAt", "(I)I"⟩, 6), (⟨"HayWriting$Tokens", "moreAt", "(I)I"⟩, 6), (⟨"HayWriting$Reader", "kindHere", "()I"⟩, 10), (⟨"HayWriting$Reader", "readLine", "()Z"⟩, 10), (⟨"HayWriting$Reader", "readListed", "(I)Z"⟩, 10), (⟨"HayWriting$Reader", "isFull", "(I)Z"⟩, 10), (⟨"HayWriting$Reader", "refused", "(I)Z"⟩, 10), (⟨"HayWriting$Reader", "goOn", "()V"⟩, 10), (⟨"HayWriting$Reader", "readOwner", "()Z"⟩, 10), (⟨"HayWriting$Reader", "readNewName", "([II)I"⟩, 10)]
theorem lw_r1 : ∀ q ∈ lw_privs_1, lw_okq q := List.forall_mem_cons.mpr ⟨lw_p0, List.forall_mem_cons.mpr ⟨lw_p1, List.forall_mem_cons.mpr ⟨lw_p2, List.forall_mem_cons.mpr ⟨lw_p3, List.forall_mem_cons.mpr ⟨lw_p4, List.forall_mem_cons.mpr ⟨lw_p5, List.forall_mem_cons.mpr ⟨lw_p6, List.forall_mem_cons.mpr ⟨lw_p7, List.forall_mem_cons.mpr ⟨lw_p8, List.forall_mem_cons.mpr ⟨lw_p9, List.forall_mem_cons.mpr ⟨lw_p10, List.forall_mem_cons.mpr ⟨lw_p11, List.forall_mem_cons.mpr ⟨lw_p12, List.forall_mem_cons.mpr ⟨lw_p13, List.forall_mem_cons.mpr ⟨lw_p14, List.forall_mem_cons.mpr ⟨lw_p15, fun _ h => absurd h List.not_mem_nil⟩⟩⟩⟩⟩⟩⟩⟩⟩⟩⟩⟩⟩⟩⟩⟩
theorem lw_p16 : lw_okq (⟨"HayWriting$Reader", "refuse", "(I)I"⟩, 10) := ⟨⟨by decide +kernel, by decide +kernel⟩, List.mem_of_getElem? (i := 307) (by decide +kernel), List.mem_of_getElem? (i := 720) (by decide +kernel), List.mem_of_getElem? (i := 721) (by decide +kernel)⟩
theorem lw_p17 : lw_okq (⟨"HayWriting$Reader", "readNumber", "(II)I"⟩, 10) := ⟨⟨by decide +kernel, by decide +kernel⟩, List.mem_of_getElem? (i := 307) (by decide +kernel), List.mem_of_getElem? (i := 727) (by decide +kernel), List.mem_of_getElem? (i := 728) (by decide +kernel)⟩
theorem lw_p18 : lw_okq (⟨"HayWriting$Reader", "readStrip", "()Z"⟩, 10) := ⟨⟨by decide +kernel, by decide +kernel⟩, List.mem_of_getElem? (i := 307) (by decide +kernel), List.mem_of_getElem? (i := 735) (by decide +kernel), List.mem_of_getElem? (i := 736) (by decide +kernel)⟩
theorem lw_p19 : lw_okq (⟨"HayWriting$Reader", "readToldName", "([II)I"⟩, 10) := ⟨⟨by decide +kernel, by decide +kernel⟩, List.mem_of_getElem? (i := 307) (by decide +kernel), List.mem_of_getElem? (i := 739) (by decide +kernel), List.mem_of_getElem? (i := 740) (by decide +kernel)⟩
theorem lw_p20 : lw_okq (⟨"HayWriting$Reader", "readGlyph", "()Z"⟩, 10) := ⟨⟨by decide +kernel, by decide +kernel⟩, List.mem_of_getElem? (i := 307) (by decide +kernel), List.mem_of_getElem? (i := 755) (by decide +kernel), List.mem_of_getElem? (i := 756) (by decide +kernel)⟩
theorem lw_p21 : lw_okq (⟨"HayWriting$Reader", "readWord", "()Z"⟩, 10) := ⟨⟨by decide +kernel, by decide +kernel⟩, List.mem_of_getElem? (i := 307) (by decide +kernel), List.mem_of_getElem? (i := 764) (by decide +kernel), List.mem_of_getElem? (i := 765) (by decide +kernel)⟩
theorem lw_p22 : lw_okq (⟨"HayWriting$Reader", "readHill", "()Z"⟩, 10) := ⟨⟨by decide +kernel, by decide +kernel⟩, List.mem_of_getElem? (i := 307) (by decide +kernel), List.mem_of_getElem? (i := 773) (by decide +kernel), List.mem_of_getElem? (i := 774) (by decide +kernel)⟩
theorem lw_p23 : lw_okq (⟨"HayWriting$Reader", "readWash", "()Z"⟩, 10) := ⟨⟨by decide +kernel, by decide +kernel⟩, List.mem_of_getElem? (i := 307) (by decide +kernel), List.mem_of_getElem? (i := 781) (by decide +kernel), List.mem_of_getElem? (i := 782) (by decide +kernel)⟩
theorem lw_p24 : lw_okq (⟨"HayWriting$Reader", "readSign", "()Z"⟩, 10) := ⟨⟨by decide +kernel, by decide +kernel⟩, List.mem_of_getElem? (i := 307) (by decide +kernel), List.mem_of_getElem? (i := 789) (by decide +kernel), List.mem_of_getElem? (i := 790) (by decide +kernel)⟩
theorem lw_p25 : lw_okq (⟨"HayWriting$Reader", "readLink", "()Z"⟩, 10) := ⟨⟨by decide +kernel, by decide +kernel⟩, List.mem_of_getElem? (i := 307) (by decide +kernel), List.mem_of_getElem? (i := 797) (by decide +kernel), List.mem_of_getElem? (i := 798) (by decide +kernel)⟩
theorem lw_p26 : lw_okq (⟨"HayWriting$Reader", "readOnce", "(I)Z"⟩, 10) := ⟨⟨by decide +kernel, by decide +kernel⟩, List.mem_of_getElem? (i := 307) (by decide +kernel), List.mem_of_getElem? (i := 809) (by decide +kernel), List.mem_of_getElem? (i := 810) (by decide +kernel)⟩
theorem lw_p27 : lw_okq (⟨"HayWriting$Reader", "readPlain", "()Z"⟩, 10) := ⟨⟨by decide +kernel, by decide +kernel⟩, List.mem_of_getElem? (i := 307) (by decide +kernel), List.mem_of_getElem? (i := 813) (by decide +kernel), List.mem_of_getElem? (i := 814) (by decide +kernel)⟩
theorem lw_p28 : lw_okq (⟨"HayWriting$Reader", "readLaw", "()Z"⟩, 10) := ⟨⟨by decide +kernel, by decide +kernel⟩, List.mem_of_getElem? (i := 307) (by decide +kernel), List.mem_of_getElem? (i := 818) (by decide +kernel), List.mem_of_getElem? (i := 819) (by decide +kernel)⟩
theorem lw_p29 : lw_okq (⟨"HayWriting$Reader", "isLawOver", "()Z"⟩, 10) := ⟨⟨by decide +kernel, by decide +kernel⟩, List.mem_of_getElem? (i := 307) (by decide +kernel), List.mem_of_getElem? (i := 822) (by decide +kernel), List.mem_of_getElem? (i := 823) (by decide +kernel)⟩
theorem lw_p30 : lw_okq (⟨"HayWriting$Reader", "readValue", "()Z"⟩, 10) := ⟨⟨by decide +kernel, by decide +kernel⟩, List.mem_of_getElem? (i := 307) (by decide +kernel), List.mem_of_getElem? (i := 826) (by decide +kernel), List.mem_of_getElem? (i := 827) (by decide +kernel)⟩
theorem lw_p31 : lw_okq (⟨"HayWriting$Reader", "await", "(I)Z"⟩, 10) := ⟨⟨by decide +kernel, by decide +kernel⟩, List.mem_of_getElem? (i := 307) (by decide +kernel), List.mem_of_getElem? (i := 830) (by decide +kernel), List.mem_of_getElem? (i := 831) (by decide +kernel)⟩
def lw_privs_2 : List (MethodName × Nat) := [(⟨"HayWriting$Reader", "refuse", "(I)I"⟩, 10), (⟨"HayWriting$Reader", "readNumber", "(II)I"⟩, 10), (⟨"HayWriting$Reader", "readStrip", "()Z"⟩, 10), (⟨"HayWriting$Reader", "readToldName", "([II)I"⟩, 10), (⟨"HayWriting$Reader", "readGlyph", "()Z"⟩, 10), (⟨"HayWriting$Reader", "readWord", "()Z"⟩, 10), (⟨"HayWriting$Reader", "readHill", "()Z"⟩, 10), (⟨"HayWriting$Reader", "readWash", "()Z"⟩, 10), (⟨"HayWriting$Reader", "readSign", "()Z"⟩, 10), (⟨"HayWriting$Reader", "readLink", "()Z"⟩, 10), (⟨"HayWriting$Reader", "readOnce", "(I)Z"⟩, 10), (⟨"HayWriting$Reader", "readPlain", "()Z"⟩, 10), (⟨"HayWriting$Reader", "readLaw", "()Z"⟩, 10), (⟨"HayWriting$Reader", "isLawOver", "()Z"⟩, 10), (⟨"HayWriting$Reader", "readValue", "()Z"⟩, 10), (⟨"HayWriting$Reader", "await", "(I)Z"⟩, 10)]
theorem lw_r2 : ∀ q ∈ lw_privs_2, lw_okq q := List.forall_mem_cons.mpr ⟨lw_p16, List.forall_mem_cons.mpr ⟨lw_p17, List.forall_mem_cons.mpr ⟨lw_p18, List.forall_mem_cons.mpr ⟨lw_p19, List.forall_mem_cons.mpr ⟨lw_p20, List.forall_mem_cons.mpr ⟨lw_p21, List.forall_mem_cons.mpr ⟨lw_p22, List.forall_mem_cons.mpr ⟨lw_p23, List.forall_mem_cons.mpr ⟨lw_p24, List.forall_mem_cons.mpr ⟨lw_p25, List.forall_mem_cons.mpr ⟨lw_p26, List.forall_mem_cons.mpr ⟨lw_p27, List.forall_mem_cons.mpr ⟨lw_p28, List.forall_mem_cons.mpr ⟨lw_p29, List.forall_mem_cons.mpr ⟨lw_p30, List.forall_mem_cons.mpr ⟨lw_p31, fun _ h => absurd h List.not_mem_nil⟩⟩⟩⟩⟩⟩⟩⟩⟩⟩⟩⟩⟩⟩⟩⟩
theorem lw_p32 : lw_okq (⟨"HayWriting$Reader", "isKnot", "()Z"⟩, 10) := ⟨⟨by decide +kernel, by decide +kernel⟩, List.mem_of_getElem? (i := 307) (by decide +kernel), List.mem_of_getElem? (i := 837) (by decide +kernel), List.mem_of_getElem? (i := 838) (by decide +kernel)⟩
theorem lw_p33 : lw_okq (⟨"HayWriting$Reader", "readSignBehind", "()Z"⟩, 10) := ⟨⟨by decide +kernel, by decide +kernel⟩, List.mem_of_getElem? (i := 307) (by decide +kernel), List.mem_of_getElem? (i := 845) (by decide +kernel), List.mem_of_getElem? (i := 846) (by decide +kernel)⟩
theorem lw_p34 : lw_okq (⟨"HayWriting$Reader", "settle", "(I)V"⟩, 10) := ⟨⟨by decide +kernel, by decide +kernel⟩, List.mem_of_getElem? (i := 307) (by decide +kernel), List.mem_of_getElem? (i := 849) (by decide +kernel), List.mem_of_getElem? (i := 850) (by decide +kernel)⟩
theorem lw_p35 : lw_okq (⟨"HayWriting$Law", "lookAt", "(LHayWriting$Told;LHayWriting$Scene;I)V"⟩, 5) := ⟨⟨by decide +kernel, by decide +kernel⟩, List.mem_of_getElem? (i := 185) (by decide +kernel), List.mem_of_getElem? (i := 910) (by decide +kernel), List.mem_of_getElem? (i := 911) (by decide +kernel)⟩
theorem lw_p36 : lw_okq (⟨"HayWriting", "isPlaced", "(III)Z"⟩, 14) := ⟨⟨by decide +kernel, by decide +kernel⟩, List.mem_of_getElem? (i := 27) (by decide +kernel), List.mem_of_getElem? (i := 947) (by decide +kernel), List.mem_of_getElem? (i := 948) (by decide +kernel)⟩
theorem lw_p37 : lw_okq (⟨"HayWriting$Search", "places", "()I"⟩, 18) := ⟨⟨by decide +kernel, by decide +kernel⟩, List.mem_of_getElem? (i := 432) (by decide +kernel), List.mem_of_getElem? (i := 1011) (by decide +kernel), List.mem_of_getElem? (i := 1012) (by decide +kernel)⟩
theorem lw_p38 : lw_okq (⟨"HayWriting$Search", "isWritten", "(III)Z"⟩, 18) := ⟨⟨by decide +kernel, by decide +kernel⟩, List.mem_of_getElem? (i := 432) (by decide +kernel), List.mem_of_getElem? (i := 1020) (by decide +kernel), List.mem_of_getElem? (i := 1021) (by decide +kernel)⟩
theorem lw_p39 : lw_okq (⟨"HayWriting$Scene", "cutThoseDue", "(LHayWriting$Told;)V"⟩, 6) := ⟨⟨by decide +kernel, by decide +kernel⟩, List.mem_of_getElem? (i := 346) (by decide +kernel), List.mem_of_getElem? (i := 1032) (by decide +kernel), List.mem_of_getElem? (i := 1033) (by decide +kernel)⟩
theorem lw_p40 : lw_okq (⟨"HayWriting$Scene", "eat", "(LHayWriting$Told;)V"⟩, 6) := ⟨⟨by decide +kernel, by decide +kernel⟩, List.mem_of_getElem? (i := 346) (by decide +kernel), List.mem_of_getElem? (i := 1036) (by decide +kernel), List.mem_of_getElem? (i := 1037) (by decide +kernel)⟩
theorem lw_p41 : lw_okq (⟨"HayWriting$Scene", "rainOn", "(LHayWriting$Told;)V"⟩, 6) := ⟨⟨by decide +kernel, by decide +kernel⟩, List.mem_of_getElem? (i := 346) (by decide +kernel), List.mem_of_getElem? (i := 1043) (by decide +kernel), List.mem_of_getElem? (i := 1044) (by decide +kernel)⟩
theorem lw_p42 : lw_okq (⟨"HayWriting$Scene", "nextNumber", "()I"⟩, 6) := ⟨⟨by decide +kernel, by decide +kernel⟩, List.mem_of_getElem? (i := 346) (by decide +kernel), List.mem_of_getElem? (i := 1047) (by decide +kernel), List.mem_of_getElem? (i := 1048) (by decide +kernel)⟩
theorem lw_p43 : lw_okq (⟨"HayWriting", "areUnlike", "(II)Z"⟩, 14) := ⟨⟨by decide +kernel, by decide +kernel⟩, List.mem_of_getElem? (i := 27) (by decide +kernel), List.mem_of_getElem? (i := 1075) (by decide +kernel), List.mem_of_getElem? (i := 1076) (by decide +kernel)⟩
theorem lw_p44 : lw_okq (⟨"HayWriting$Search", "placeOther", "(IIIIZ)V"⟩, 18) := ⟨⟨by decide +kernel, by decide +kernel⟩, List.mem_of_getElem? (i := 432) (by decide +kernel), List.mem_of_getElem? (i := 1089) (by decide +kernel), List.mem_of_getElem? (i := 1090) (by decide +kernel)⟩
theorem lw_p45 : lw_okq (⟨"HayWriting$Search", "cross", "(IIII)Z"⟩, 18) := ⟨⟨by decide +kernel, by decide +kernel⟩, List.mem_of_getElem? (i := 432) (by decide +kernel), List.mem_of_getElem? (i := 1093) (by decide +kernel), List.mem_of_getElem? (i := 1094) (by decide +kernel)⟩
theorem lw_p46 : lw_okq (⟨"HayWriting$Search", "isRead", "(LHayWriting$Scene;III)Z"⟩, 18) := ⟨⟨by decide +kernel, by decide +kernel⟩, List.mem_of_getElem? (i := 432) (by decide +kernel), List.mem_of_getElem? (i := 1105) (by decide +kernel), List.mem_of_getElem? (i := 1106) (by decide +kernel)⟩
theorem lw_p47 : lw_okq (⟨"HayWriting$Search", "isOrder", "(II)Z"⟩, 18) := ⟨⟨by decide +kernel, by decide +kernel⟩, List.mem_of_getElem? (i := 432) (by decide +kernel), List.mem_of_getElem? (i := 1148) (by decide +kernel), List.mem_of_getElem? (i := 1149) (by decide +kernel)⟩
def lw_privs_3 : List (MethodName × Nat) := [(⟨"HayWriting$Reader", "isKnot", "()Z"⟩, 10), (⟨"HayWriting$Reader", "readSignBehind", "()Z"⟩, 10), (⟨"HayWriting$Reader", "settle", "(I)V"⟩, 10), (⟨"HayWriting$Law", "lookAt", "(LHayWriting$Told;LHayWriting$Scene;I)V"⟩, 5), (⟨"HayWriting", "isPlaced", "(III)Z"⟩, 14), (⟨"HayWriting$Search", "places", "()I"⟩, 18), (⟨"HayWriting$Search", "isWritten", "(III)Z"⟩, 18), (⟨"HayWriting$Scene", "cutThoseDue", "(LHayWriting$Told;)V"⟩, 6), (⟨"HayWriting$Scene", "eat", "(LHayWriting$Told;)V"⟩, 6), (⟨"HayWriting$Scene", "rainOn", "(LHayWriting$Told;)V"⟩, 6), (⟨"HayWriting$Scene", "nextNumber", "()I"⟩, 6), (⟨"HayWriting", "areUnlike", "(II)Z"⟩, 14), (⟨"HayWriting$Search", "placeOther", "(IIIIZ)V"⟩, 18), (⟨"HayWriting$Search", "cross", "(IIII)Z"⟩, 18), (⟨"HayWriting$Search", "isRead", "(LHayWriting$Scene;III)Z"⟩, 18), (⟨"HayWriting$Search", "isOrder", "(II)Z"⟩, 18)]
theorem lw_r3 : ∀ q ∈ lw_privs_3, lw_okq q := List.forall_mem_cons.mpr ⟨lw_p32, List.forall_mem_cons.mpr ⟨lw_p33, List.forall_mem_cons.mpr ⟨lw_p34, List.forall_mem_cons.mpr ⟨lw_p35, List.forall_mem_cons.mpr ⟨lw_p36, List.forall_mem_cons.mpr ⟨lw_p37, List.forall_mem_cons.mpr ⟨lw_p38, List.forall_mem_cons.mpr ⟨lw_p39, List.forall_mem_cons.mpr ⟨lw_p40, List.forall_mem_cons.mpr ⟨lw_p41, List.forall_mem_cons.mpr ⟨lw_p42, List.forall_mem_cons.mpr ⟨lw_p43, List.forall_mem_cons.mpr ⟨lw_p44, List.forall_mem_cons.mpr ⟨lw_p45, List.forall_mem_cons.mpr ⟨lw_p46, List.forall_mem_cons.mpr ⟨lw_p47, fun _ h => absurd h List.not_mem_nil⟩⟩⟩⟩⟩⟩⟩⟩⟩⟩⟩⟩⟩⟩⟩⟩
theorem lw_p48 : lw_okq (⟨"HayWriting$Search", "sumOf", "(III)I"⟩, 18) := ⟨⟨by decide +kernel, by decide +kernel⟩, List.mem_of_getElem? (i := 432) (by decide +kernel), List.mem_of_getElem? (i := 1152) (by decide +kernel), List.mem_of_getElem? (i := 1153) (by decide +kernel)⟩
theorem lw_p49 : lw_okq (⟨"HayWriting", "hangs", "(I)Z"⟩, 14) := ⟨⟨by decide +kernel, by decide +kernel⟩, List.mem_of_getElem? (i := 27) (by decide +kernel), List.mem_of_getElem? (i := 1165) (by decide +kernel), List.mem_of_getElem? (i := 1166) (by decide +kernel)⟩
theorem lw_p50 : lw_okq (⟨"HayWriting$Washing", "areTold", "(I)Z"⟩, 7) := ⟨⟨by decide +kernel, by decide +kernel⟩, List.mem_of_getElem? (i := 151) (by decide +kernel), List.mem_of_getElem? (i := 1223) (by decide +kernel), List.mem_of_getElem? (i := 1224) (by decide +kernel)⟩
theorem lw_p51 : lw_okq (⟨"HayWriting$Search", "readSince", "(II)I"⟩, 18) := ⟨⟨by decide +kernel, by decide +kernel⟩, List.mem_of_getElem? (i := 432) (by decide +kernel), List.mem_of_getElem? (i := 1237) (by decide +kernel), List.mem_of_getElem? (i := 1238) (by decide +kernel)⟩
theorem lw_p52 : lw_okq (⟨"HayWriting$Search", "isWordOver", "(IIII)Z"⟩, 18) := ⟨⟨by decide +kernel, by decide +kernel⟩, List.mem_of_getElem? (i := 432) (by decide +kernel), List.mem_of_getElem? (i := 1268) (by decide +kernel), List.mem_of_getElem? (i := 1269) (by decide +kernel)⟩
theorem lw_p53 : lw_okq (⟨"HayWriting$Search", "isTale", "(LHayWriting$Notes;II)Z"⟩, 18) := ⟨⟨by decide +kernel, by decide +kernel⟩, List.mem_of_getElem? (i := 432) (by decide +kernel), List.mem_of_getElem? (i := 1316) (by decide +kernel), List.mem_of_getElem? (i := 1317) (by decide +kernel)⟩
theorem lw_p54 : lw_okq (⟨"HayWriting$Search", "isSo", "(III)Z"⟩, 18) := ⟨⟨by decide +kernel, by decide +kernel⟩, List.mem_of_getElem? (i := 432) (by decide +kernel), List.mem_of_getElem? (i := 1325) (by decide +kernel), List.mem_of_getElem? (i := 1326) (by decide +kernel)⟩
theorem lw_p55 : lw_okq (⟨"java/lang/Throwable", "fillInStackTrace", "(I)Ljava/lang/Throwable;"⟩, 6) := ⟨⟨by decide +kernel, by decide +kernel⟩, List.mem_of_getElem? (i := 1421) (by decide +kernel), List.mem_of_getElem? (i := 1419) (by decide +kernel), List.mem_of_getElem? (i := 1420) (by decide +kernel)⟩
theorem lw_p56 : lw_okq (⟨"HayWritingModel", "plain", "()V"⟩, 101) := ⟨⟨by decide +kernel, by decide +kernel⟩, List.mem_of_getElem? (i := 1467) (by decide +kernel), List.mem_of_getElem? (i := 1473) (by decide +kernel), List.mem_of_getElem? (i := 1474) (by decide +kernel)⟩
theorem lw_p57 : lw_okq (⟨"HayWritingModel", "keepText", "()V"⟩, 101) := ⟨⟨by decide +kernel, by decide +kernel⟩, List.mem_of_getElem? (i := 1467) (by decide +kernel), List.mem_of_getElem? (i := 1477) (by decide +kernel), List.mem_of_getElem? (i := 1478) (by decide +kernel)⟩
theorem lw_p58 : lw_okq (⟨"HayWritingModel", "begin", "()V"⟩, 101) := ⟨⟨by decide +kernel, by decide +kernel⟩, List.mem_of_getElem? (i := 1467) (by decide +kernel), List.mem_of_getElem? (i := 1484) (by decide +kernel), List.mem_of_getElem? (i := 1485) (by decide +kernel)⟩
theorem lw_p59 : lw_okq (⟨"HayWritingModel", "token", "()V"⟩, 101) := ⟨⟨by decide +kernel, by decide +kernel⟩, List.mem_of_getElem? (i := 1467) (by decide +kernel), List.mem_of_getElem? (i := 1804) (by decide +kernel), List.mem_of_getElem? (i := 1805) (by decide +kernel)⟩
theorem lw_p60 : lw_okq (⟨"HayWritingModel", "isSmall", "(I)Z"⟩, 101) := ⟨⟨by decide +kernel, by decide +kernel⟩, List.mem_of_getElem? (i := 1467) (by decide +kernel), List.mem_of_getElem? (i := 1808) (by decide +kernel), List.mem_of_getElem? (i := 1809) (by decide +kernel)⟩
theorem lw_p61 : lw_okq (⟨"HayWritingModel", "wordAt", "(II)I"⟩, 101) := ⟨⟨by decide +kernel, by decide +kernel⟩, List.mem_of_getElem? (i := 1467) (by decide +kernel), List.mem_of_getElem? (i := 1812) (by decide +kernel), List.mem_of_getElem? (i := 1813) (by decide +kernel)⟩
theorem lw_p62 : lw_okq (⟨"HayWritingModel", "packed", "(II)I"⟩, 101) := ⟨⟨by decide +kernel, by decide +kernel⟩, List.mem_of_getElem? (i := 1467) (by decide +kernel), List.mem_of_getElem? (i := 1816) (by decide +kernel), List.mem_of_getElem? (i := 1817) (by decide +kernel)⟩
theorem lw_p63 : lw_okq (⟨"HayWritingModel", "isDigit", "(I)Z"⟩, 101) := ⟨⟨by decide +kernel, by decide +kernel⟩, List.mem_of_getElem? (i := 1467) (by decide +kernel), List.mem_of_getElem? (i := 1820) (by decide +kernel), List.mem_of_getElem? (i := 1821) (by decide +kernel)⟩
def lw_privs_4 : List (MethodName × Nat) := [(⟨"HayWriting$Search", "sumOf", "(III)I"⟩, 18), (⟨"HayWriting", "hangs", "(I)Z"⟩, 14), (⟨"HayWriting$Washing", "areTold", "(I)Z"⟩, 7), (⟨"HayWriting$Search", "readSince", "(II)I"⟩, 18), (⟨"HayWriting$Search", "isWordOver", "(IIII)Z"⟩, 18), (⟨"HayWriting$Search", "isTale", "(LHayWriting$Notes;II)Z"⟩, 18), (⟨"HayWriting$Search", "isSo", "(III)Z"⟩, 18), (⟨"java/lang/Throwable", "fillInStackTrace", "(I)Ljava/lang/Throwable;"⟩, 6), (⟨"HayWritingModel", "plain", "()V"⟩, 101), (⟨"HayWritingModel", "keepText", "()V"⟩, 101), (⟨"HayWritingModel", "begin", "()V"⟩, 101), (⟨"HayWritingModel", "token", "()V"⟩, 101), (⟨"HayWritingModel", "isSmall", "(I)Z"⟩, 101), (⟨"HayWritingModel", "wordAt", "(II)I"⟩, 101), (⟨"HayWritingModel", "packed", "(II)I"⟩, 101), (⟨"HayWritingModel", "isDigit", "(I)Z"⟩, 101)]
theorem lw_r4 : ∀ q ∈ lw_privs_4, lw_okq q := List.forall_mem_cons.mpr ⟨lw_p48, List.forall_mem_cons.mpr ⟨lw_p49, List.forall_mem_cons.mpr ⟨lw_p50, List.forall_mem_cons.mpr ⟨lw_p51, List.forall_mem_cons.mpr ⟨lw_p52, List.forall_mem_cons.mpr ⟨lw_p53, List.forall_mem_cons.mpr ⟨lw_p54, List.forall_mem_cons.mpr ⟨lw_p55, List.forall_mem_cons.mpr ⟨lw_p56, List.forall_mem_cons.mpr ⟨lw_p57, List.forall_mem_cons.mpr ⟨lw_p58, List.forall_mem_cons.mpr ⟨lw_p59, List.forall_mem_cons.mpr ⟨lw_p60, List.forall_mem_cons.mpr ⟨lw_p61, List.forall_mem_cons.mpr ⟨lw_p62, List.forall_mem_cons.mpr ⟨lw_p63, fun _ h => absurd h List.not_mem_nil⟩⟩⟩⟩⟩⟩⟩⟩⟩⟩⟩⟩⟩⟩⟩⟩
theorem lw_p64 : lw_okq (⟨"HayWritingModel", "signToken", "()V"⟩, 101) := ⟨⟨by decide +kernel, by decide +kernel⟩, List.mem_of_getElem? (i := 1467) (by decide +kernel), List.mem_of_getElem? (i := 1825) (by decide +kernel), List.mem_of_getElem? (i := 1826) (by decide +kernel)⟩
theorem lw_p65 : lw_okq (⟨"HayWritingModel", "lineRead", "()Z"⟩, 101) := ⟨⟨by decide +kernel, by decide +kernel⟩, List.mem_of_getElem? (i := 1467) (by decide +kernel), List.mem_of_getElem? (i := 1829) (by decide +kernel), List.mem_of_getElem? (i := 1830) (by decide +kernel)⟩
theorem lw_p66 : lw_okq (⟨"HayWritingModel", "wrong", "(I)Z"⟩, 101) := ⟨⟨by decide +kernel, by decide +kernel⟩, List.mem_of_getElem? (i := 1467) (by decide +kernel), List.mem_of_getElem? (i := 1833) (by decide +kernel), List.mem_of_getElem? (i := 1834) (by decide +kernel)⟩
theorem lw_p67 : lw_okq (⟨"HayWritingModel", "plainLine", "()Z"⟩, 101) := ⟨⟨by decide +kernel, by decide +kernel⟩, List.mem_of_getElem? (i := 1467) (by decide +kernel), List.mem_of_getElem? (i := 1837) (by decide +kernel), List.mem_of_getElem? (i := 1838) (by decide +kernel)⟩
theorem lw_p68 : lw_okq (⟨"HayWritingModel", "number", "(II)Z"⟩, 101) := ⟨⟨by decide +kernel, by decide +kernel⟩, List.mem_of_getElem? (i := 1467) (by decide +kernel), List.mem_of_getElem? (i := 1841) (by decide +kernel), List.mem_of_getElem? (i := 1842) (by decide +kernel)⟩
theorem lw_p69 : lw_okq (⟨"HayWritingModel", "ownerLine", "()Z"⟩, 101) := ⟨⟨by decide +kernel, by decide +kernel⟩, List.mem_of_getElem? (i := 1467) (by decide +kernel), List.mem_of_getElem? (i := 1848) (by decide +kernel), List.mem_of_getElem? (i := 1849) (by decide +kernel)⟩
theorem lw_p70 : lw_okq (⟨"HayWritingModel", "newName", "([III)Z"⟩, 101) := ⟨⟨by decide +kernel, by decide +kernel⟩, List.mem_of_getElem? (i := 1467) (by decide +kernel), List.mem_of_getElem? (i := 1852) (by decide +kernel), List.mem_of_getElem? (i := 1853) (by decide +kernel)⟩
theorem lw_p71 : lw_okq (⟨"HayWritingModel", "stripLine", "()Z"⟩, 101) := ⟨⟨by decide +kernel, by decide +kernel⟩, List.mem_of_getElem? (i := 1467) (by decide +kernel), List.mem_of_getElem? (i := 1859) (by decide +kernel), List.mem_of_getElem? (i := 1860) (by decide +kernel)⟩
theorem lw_p72 : lw_okq (⟨"HayWritingModel", "oldName", "([III)Z"⟩, 101) := ⟨⟨by decide +kernel, by decide +kernel⟩, List.mem_of_getElem? (i := 1467) (by decide +kernel), List.mem_of_getElem? (i := 1863) (by decide +kernel), List.mem_of_getElem? (i := 1864) (by decide +kernel)⟩
theorem lw_p73 : lw_okq (⟨"HayWritingModel", "glyphLine", "()Z"⟩, 101) := ⟨⟨by decide +kernel, by decide +kernel⟩, List.mem_of_getElem? (i := 1467) (by decide +kernel), List.mem_of_getElem? (i := 1867) (by decide +kernel), List.mem_of_getElem? (i := 1868) (by decide +kernel)⟩
theorem lw_p74 : lw_okq (⟨"HayWritingModel", "signLine", "()Z"⟩, 101) := ⟨⟨by decide +kernel, by decide +kernel⟩, List.mem_of_getElem? (i := 1467) (by decide +kernel), List.mem_of_getElem? (i := 1877) (by decide +kernel), List.mem_of_getElem? (i := 1878) (by decide +kernel)⟩
theorem lw_p75 : lw_okq (⟨"HayWritingModel", "linkLine", "()Z"⟩, 101) := ⟨⟨by decide +kernel, by decide +kernel⟩, List.mem_of_getElem? (i := 1467) (by decide +kernel), List.mem_of_getElem? (i := 1881) (by decide +kernel), List.mem_of_getElem? (i := 1882) (by decide +kernel)⟩
theorem lw_p76 : lw_okq (⟨"HayWritingModel", "onceLine", "(I)Z"⟩, 101) := ⟨⟨by decide +kernel, by decide +kernel⟩, List.mem_of_getElem? (i := 1467) (by decide +kernel), List.mem_of_getElem? (i := 1885) (by decide +kernel), List.mem_of_getElem? (i := 1886) (by decide +kernel)⟩
theorem lw_p77 : lw_okq (⟨"HayWritingModel", "isKey", "(I)Z"⟩, 101) := ⟨⟨by decide +kernel, by decide +kernel⟩, List.mem_of_getElem? (i := 1467) (by decide +kernel), List.mem_of_getElem? (i := 1889) (by decide +kernel), List.mem_of_getElem? (i := 1890) (by decide +kernel)⟩
theorem lw_p78 : lw_okq (⟨"HayWritingModel", "sumRead", "()Z"⟩, 101) := ⟨⟨by decide +kernel, by decide +kernel⟩, List.mem_of_getElem? (i := 1467) (by decide +kernel), List.mem_of_getElem? (i := 1893) (by decide +kernel), List.mem_of_getElem? (i := 1894) (by decide +kernel)⟩
theorem lw_p79 : lw_okq (⟨"HayWritingModel", "isSign", "(I)Z"⟩, 101) := ⟨⟨by decide +kernel, by decide +kernel⟩, List.mem_of_getElem? (i := 1467) (by decide +kernel), List.mem_of_getElem? (i := 1897) (by decide +kernel), List.mem_of_getElem? (i := 1898) (by decide +kernel)⟩
def lw_privs_5 : List (MethodName × Nat) := [(⟨"HayWritingModel", "signToken", "()V"⟩, 101), (⟨"HayWritingModel", "lineRead", "()Z"⟩, 101), (⟨"HayWritingModel", "wrong", "(I)Z"⟩, 101), (⟨"HayWritingModel", "plainLine", "()Z"⟩, 101), (⟨"HayWritingModel", "number", "(II)Z"⟩, 101), (⟨"HayWritingModel", "ownerLine", "()Z"⟩, 101), (⟨"HayWritingModel", "newName", "([III)Z"⟩, 101), (⟨"HayWritingModel", "stripLine", "()Z"⟩, 101), (⟨"HayWritingModel", "oldName", "([III)Z"⟩, 101), (⟨"HayWritingModel", "glyphLine", "()Z"⟩, 101), (⟨"HayWritingModel", "signLine", "()Z"⟩, 101), (⟨"HayWritingModel", "linkLine", "()Z"⟩, 101), (⟨"HayWritingModel", "onceLine", "(I)Z"⟩, 101), (⟨"HayWritingModel", "isKey", "(I)Z"⟩, 101), (⟨"HayWritingModel", "sumRead", "()Z"⟩, 101), (⟨"HayWritingModel", "isSign", "(I)Z"⟩, 101)]
theorem lw_r5 : ∀ q ∈ lw_privs_5, lw_okq q := List.forall_mem_cons.mpr ⟨lw_p64, List.forall_mem_cons.mpr ⟨lw_p65, List.forall_mem_cons.mpr ⟨lw_p66, List.forall_mem_cons.mpr ⟨lw_p67, List.forall_mem_cons.mpr ⟨lw_p68, List.forall_mem_cons.mpr ⟨lw_p69, List.forall_mem_cons.mpr ⟨lw_p70, List.forall_mem_cons.mpr ⟨lw_p71, List.forall_mem_cons.mpr ⟨lw_p72, List.forall_mem_cons.mpr ⟨lw_p73, List.forall_mem_cons.mpr ⟨lw_p74, List.forall_mem_cons.mpr ⟨lw_p75, List.forall_mem_cons.mpr ⟨lw_p76, List.forall_mem_cons.mpr ⟨lw_p77, List.forall_mem_cons.mpr ⟨lw_p78, List.forall_mem_cons.mpr ⟨lw_p79, fun _ h => absurd h List.not_mem_nil⟩⟩⟩⟩⟩⟩⟩⟩⟩⟩⟩⟩⟩⟩⟩⟩
theorem lw_p80 : lw_okq (⟨"HayWritingModel", "leafRead", "()Z"⟩, 101) := ⟨⟨by decide +kernel, by decide +kernel⟩, List.mem_of_getElem? (i := 1467) (by decide +kernel), List.mem_of_getElem? (i := 1901) (by decide +kernel), List.mem_of_getElem? (i := 1902) (by decide +kernel)⟩
theorem lw_p81 : lw_okq (⟨"HayWritingModel", "waitsFor", "(I)V"⟩, 101) := ⟨⟨by decide +kernel, by decide +kernel⟩, List.mem_of_getElem? (i := 1467) (by decide +kernel), List.mem_of_getElem? (i := 1905) (by decide +kernel), List.mem_of_getElem? (i := 1906) (by decide +kernel)⟩
theorem lw_p82 : lw_okq (⟨"HayWritingModel", "isCounted", "()Z"⟩, 101) := ⟨⟨by decide +kernel, by decide +kernel⟩, List.mem_of_getElem? (i := 1467) (by decide +kernel), List.mem_of_getElem? (i := 1909) (by decide +kernel), List.mem_of_getElem? (i := 1910) (by decide +kernel)⟩
theorem lw_p83 : lw_okq (⟨"HayWritingModel", "nameMet", "()I"⟩, 101) := ⟨⟨by decide +kernel, by decide +kernel⟩, List.mem_of_getElem? (i := 1467) (by decide +kernel), List.mem_of_getElem? (i := 1913) (by decide +kernel), List.mem_of_getElem? (i := 1914) (by decide +kernel)⟩
theorem lw_p84 : lw_okq (⟨"HayWritingModel", "grown", "(III)V"⟩, 101) := ⟨⟨by decide +kernel, by decide +kernel⟩, List.mem_of_getElem? (i := 1467) (by decide +kernel), List.mem_of_getElem? (i := 1917) (by decide +kernel), List.mem_of_getElem? (i := 1918) (by decide +kernel)⟩
theorem lw_p85 : lw_okq (⟨"HayWritingModel", "signs", "()Z"⟩, 101) := ⟨⟨by decide +kernel, by decide +kernel⟩, List.mem_of_getElem? (i := 1467) (by decide +kernel), List.mem_of_getElem? (i := 1921) (by decide +kernel), List.mem_of_getElem? (i := 1922) (by decide +kernel)⟩
theorem lw_p86 : lw_okq (⟨"HayWritingModel", "bind", "(I)V"⟩, 101) := ⟨⟨by decide +kernel, by decide +kernel⟩, List.mem_of_getElem? (i := 1467) (by decide +kernel), List.mem_of_getElem? (i := 1925) (by decide +kernel), List.mem_of_getElem? (i := 1926) (by decide +kernel)⟩
theorem lw_p87 : lw_okq (⟨"HayWritingModel", "dropHeld", "()I"⟩, 101) := ⟨⟨by decide +kernel, by decide +kernel⟩, List.mem_of_getElem? (i := 1467) (by decide +kernel), List.mem_of_getElem? (i := 1932) (by decide +kernel), List.mem_of_getElem? (i := 1933) (by decide +kernel)⟩
theorem lw_p88 : lw_okq (⟨"HayWritingModel", "isField", "(I)Z"⟩, 101) := ⟨⟨by decide +kernel, by decide +kernel⟩, List.mem_of_getElem? (i := 1467) (by decide +kernel), List.mem_of_getElem? (i := 1948) (by decide +kernel), List.mem_of_getElem? (i := 1949) (by decide +kernel)⟩
theorem lw_p89 : lw_okq (⟨"HayWritingModel", "fields", "()I"⟩, 101) := ⟨⟨by decide +kernel, by decide +kernel⟩, List.mem_of_getElem? (i := 1467) (by decide +kernel), List.mem_of_getElem? (i := 1952) (by decide +kernel), List.mem_of_getElem? (i := 1953) (by decide +kernel)⟩
theorem lw_p90 : lw_okq (⟨"HayWritingModel", "fails", "(I)I"⟩, 101) := ⟨⟨by decide +kernel, by decide +kernel⟩, List.mem_of_getElem? (i := 1467) (by decide +kernel), List.mem_of_getElem? (i := 1956) (by decide +kernel), List.mem_of_getElem? (i := 1957) (by decide +kernel)⟩
theorem lw_p91 : lw_okq (⟨"HayWritingModel", "priceOf", "(I)I"⟩, 101) := ⟨⟨by decide +kernel, by decide +kernel⟩, List.mem_of_getElem? (i := 1467) (by decide +kernel), List.mem_of_getElem? (i := 1963) (by decide +kernel), List.mem_of_getElem? (i := 1964) (by decide +kernel)⟩
theorem lw_p92 : lw_okq (⟨"HayWritingModel", "leftOf", "(II)I"⟩, 101) := ⟨⟨by decide +kernel, by decide +kernel⟩, List.mem_of_getElem? (i := 1467) (by decide +kernel), List.mem_of_getElem? (i := 1967) (by decide +kernel), List.mem_of_getElem? (i := 1968) (by decide +kernel)⟩
theorem lw_p93 : lw_okq (⟨"HayWritingModel", "shapeOf", "(I)I"⟩, 101) := ⟨⟨by decide +kernel, by decide +kernel⟩, List.mem_of_getElem? (i := 1467) (by decide +kernel), List.mem_of_getElem? (i := 1975) (by decide +kernel), List.mem_of_getElem? (i := 1976) (by decide +kernel)⟩
theorem lw_p94 : lw_okq (⟨"HayWritingModel", "isHill", "(I)Z"⟩, 101) := ⟨⟨by decide +kernel, by decide +kernel⟩, List.mem_of_getElem? (i := 1467) (by decide +kernel), List.mem_of_getElem? (i := 1983) (by decide +kernel), List.mem_of_getElem? (i := 1984) (by decide +kernel)⟩
theorem lw_p95 : lw_okq (⟨"HayWritingModel", "seenOf", "(II)I"⟩, 101) := ⟨⟨by decide +kernel, by decide +kernel⟩, List.mem_of_getElem? (i := 1467) (by decide +kernel), List.mem_of_getElem? (i := 1987) (by decide +kernel), List.mem_of_getElem? (i := 1988) (by decide +kernel)⟩
def lw_privs_6 : List (MethodName × Nat) := [(⟨"HayWritingModel", "leafRead", "()Z"⟩, 101), (⟨"HayWritingModel", "waitsFor", "(I)V"⟩, 101), (⟨"HayWritingModel", "isCounted", "()Z"⟩, 101), (⟨"HayWritingModel", "nameMet", "()I"⟩, 101), (⟨"HayWritingModel", "grown", "(III)V"⟩, 101), (⟨"HayWritingModel", "signs", "()Z"⟩, 101), (⟨"HayWritingModel", "bind", "(I)V"⟩, 101), (⟨"HayWritingModel", "dropHeld", "()I"⟩, 101), (⟨"HayWritingModel", "isField", "(I)Z"⟩, 101), (⟨"HayWritingModel", "fields", "()I"⟩, 101), (⟨"HayWritingModel", "fails", "(I)I"⟩, 101), (⟨"HayWritingModel", "priceOf", "(I)I"⟩, 101), (⟨"HayWritingModel", "leftOf", "(II)I"⟩, 101), (⟨"HayWritingModel", "shapeOf", "(I)I"⟩, 101), (⟨"HayWritingModel", "isHill", "(I)Z"⟩, 101), (⟨"HayWritingModel", "seenOf", "(II)I"⟩, 101)]
theorem lw_r6 : ∀ q ∈ lw_privs_6, lw_okq q := List.forall_mem_cons.mpr ⟨lw_p80, List.forall_mem_cons.mpr ⟨lw_p81, List.forall_mem_cons.mpr ⟨lw_p82, List.forall_mem_cons.mpr ⟨lw_p83, List.forall_mem_cons.mpr ⟨lw_p84, List.forall_mem_cons.mpr ⟨lw_p85, List.forall_mem_cons.mpr ⟨lw_p86, List.forall_mem_cons.mpr ⟨lw_p87, List.forall_mem_cons.mpr ⟨lw_p88, List.forall_mem_cons.mpr ⟨lw_p89, List.forall_mem_cons.mpr ⟨lw_p90, List.forall_mem_cons.mpr ⟨lw_p91, List.forall_mem_cons.mpr ⟨lw_p92, List.forall_mem_cons.mpr ⟨lw_p93, List.forall_mem_cons.mpr ⟨lw_p94, List.forall_mem_cons.mpr ⟨lw_p95, fun _ h => absurd h List.not_mem_nil⟩⟩⟩⟩⟩⟩⟩⟩⟩⟩⟩⟩⟩⟩⟩⟩
theorem lw_p96 : lw_okq (⟨"HayWritingModel", "readOf", "(II)I"⟩, 101) := ⟨⟨by decide +kernel, by decide +kernel⟩, List.mem_of_getElem? (i := 1467) (by decide +kernel), List.mem_of_getElem? (i := 1995) (by decide +kernel), List.mem_of_getElem? (i := 1996) (by decide +kernel)⟩
theorem lw_p97 : lw_okq (⟨"HayWritingModel", "lawOf", "(II)J"⟩, 101) := ⟨⟨by decide +kernel, by decide +kernel⟩, List.mem_of_getElem? (i := 1467) (by decide +kernel), List.mem_of_getElem? (i := 2008) (by decide +kernel), List.mem_of_getElem? (i := 2009) (by decide +kernel)⟩
theorem lw_p98 : lw_okq (⟨"HayWritingModel", "isVowel", "(I)Z"⟩, 101) := ⟨⟨by decide +kernel, by decide +kernel⟩, List.mem_of_getElem? (i := 1467) (by decide +kernel), List.mem_of_getElem? (i := 2012) (by decide +kernel), List.mem_of_getElem? (i := 2013) (by decide +kernel)⟩
theorem lw_p99 : lw_okq (⟨"HayWritingModel", "valueOf", "(I)J"⟩, 101) := ⟨⟨by decide +kernel, by decide +kernel⟩, List.mem_of_getElem? (i := 1467) (by decide +kernel), List.mem_of_getElem? (i := 2016) (by decide +kernel), List.mem_of_getElem? (i := 2017) (by decide +kernel)⟩
theorem lw_p100 : lw_okq (⟨"HayWritingModel", "bounded", "(J)J"⟩, 101) := ⟨⟨by decide +kernel, by decide +kernel⟩, List.mem_of_getElem? (i := 1467) (by decide +kernel), List.mem_of_getElem? (i := 2020) (by decide +kernel), List.mem_of_getElem? (i := 2021) (by decide +kernel)⟩
theorem lw_p101 : lw_okq (⟨"HayWritingModel", "times", "(JJ)J"⟩, 101) := ⟨⟨by decide +kernel, by decide +kernel⟩, List.mem_of_getElem? (i := 1467) (by decide +kernel), List.mem_of_getElem? (i := 2026) (by decide +kernel), List.mem_of_getElem? (i := 2027) (by decide +kernel)⟩
theorem lw_p102 : lw_okq (⟨"HayWritingModel", "arePlace", "(III)Z"⟩, 101) := ⟨⟨by decide +kernel, by decide +kernel⟩, List.mem_of_getElem? (i := 1467) (by decide +kernel), List.mem_of_getElem? (i := 2037) (by decide +kernel), List.mem_of_getElem? (i := 2038) (by decide +kernel)⟩
theorem lw_p103 : lw_okq (⟨"HayWritingModel", "isWord", "(I)Z"⟩, 101) := ⟨⟨by decide +kernel, by decide +kernel⟩, List.mem_of_getElem? (i := 1467) (by decide +kernel), List.mem_of_getElem? (i := 2041) (by decide +kernel), List.mem_of_getElem? (i := 2042) (by decide +kernel)⟩
theorem lw_p104 : lw_okq (⟨"HayWritingModel", "canSet", "(IIII)Z"⟩, 101) := ⟨⟨by decide +kernel, by decide +kernel⟩, List.mem_of_getElem? (i := 1467) (by decide +kernel), List.mem_of_getElem? (i := 2048) (by decide +kernel), List.mem_of_getElem? (i := 2049) (by decide +kernel)⟩
theorem lw_p105 : lw_okq (⟨"HayWritingModel", "lies", "(III)Z"⟩, 101) := ⟨⟨by decide +kernel, by decide +kernel⟩, List.mem_of_getElem? (i := 1467) (by decide +kernel), List.mem_of_getElem? (i := 2052) (by decide +kernel), List.mem_of_getElem? (i := 2053) (by decide +kernel)⟩
theorem lw_p106 : lw_okq (⟨"HayWritingModel", "wordLong", "(I)I"⟩, 101) := ⟨⟨by decide +kernel, by decide +kernel⟩, List.mem_of_getElem? (i := 1467) (by decide +kernel), List.mem_of_getElem? (i := 2056) (by decide +kernel), List.mem_of_getElem? (i := 2057) (by decide +kernel)⟩
theorem lw_p107 : lw_okq (⟨"HayWritingModel", "fieldAt", "(III)I"⟩, 101) := ⟨⟨by decide +kernel, by decide +kernel⟩, List.mem_of_getElem? (i := 1467) (by decide +kernel), List.mem_of_getElem? (i := 2060) (by decide +kernel), List.mem_of_getElem? (i := 2061) (by decide +kernel)⟩
theorem lw_p108 : lw_okq (⟨"HayWritingModel", "wordShape", "(II)I"⟩, 101) := ⟨⟨by decide +kernel, by decide +kernel⟩, List.mem_of_getElem? (i := 1467) (by decide +kernel), List.mem_of_getElem? (i := 2064) (by decide +kernel), List.mem_of_getElem? (i := 2065) (by decide +kernel)⟩
theorem lw_p109 : lw_okq (⟨"HayWritingModel", "costOf", "(IIII)I"⟩, 101) := ⟨⟨by decide +kernel, by decide +kernel⟩, List.mem_of_getElem? (i := 1467) (by decide +kernel), List.mem_of_getElem? (i := 2068) (by decide +kernel), List.mem_of_getElem? (i := 2069) (by decide +kernel)⟩
theorem lw_p110 : lw_okq (⟨"HayWritingModel", "remember", "()V"⟩, 101) := ⟨⟨by decide +kernel, by decide +kernel⟩, List.mem_of_getElem? (i := 1467) (by decide +kernel), List.mem_of_getElem? (i := 2076) (by decide +kernel), List.mem_of_getElem? (i := 2077) (by decide +kernel)⟩
theorem lw_p111 : lw_okq (⟨"HayWritingModel", "put", "([II)V"⟩, 101) := ⟨⟨by decide +kernel, by decide +kernel⟩, List.mem_of_getElem? (i := 1467) (by decide +kernel), List.mem_of_getElem? (i := 2080) (by decide +kernel), List.mem_of_getElem? (i := 2081) (by decide +kernel)⟩
def lw_privs_7 : List (MethodName × Nat) := [(⟨"HayWritingModel", "readOf", "(II)I"⟩, 101), (⟨"HayWritingModel", "lawOf", "(II)J"⟩, 101), (⟨"HayWritingModel", "isVowel", "(I)Z"⟩, 101), (⟨"HayWritingModel", "valueOf", "(I)J"⟩, 101), (⟨"HayWritingModel", "bounded", "(J)J"⟩, 101), (⟨"HayWritingModel", "times", "(JJ)J"⟩, 101), (⟨"HayWritingModel", "arePlace", "(III)Z"⟩, 101), (⟨"HayWritingModel", "isWord", "(I)Z"⟩, 101), (⟨"HayWritingModel", "canSet", "(IIII)Z"⟩, 101), (⟨"HayWritingModel", "lies", "(III)Z"⟩, 101), (⟨"HayWritingModel", "wordLong", "(I)I"⟩, 101), (⟨"HayWritingModel", "fieldAt", "(III)I"⟩, 101), (⟨"HayWritingModel", "wordShape", "(II)I"⟩, 101), (⟨"HayWritingModel", "costOf", "(IIII)I"⟩, 101), (⟨"HayWritingModel", "remember", "()V"⟩, 101), (⟨"HayWritingModel", "put", "([II)V"⟩, 101)]
theorem lw_r7 : ∀ q ∈ lw_privs_7, lw_okq q := List.forall_mem_cons.mpr ⟨lw_p96, List.forall_mem_cons.mpr ⟨lw_p97, List.forall_mem_cons.mpr ⟨lw_p98, List.forall_mem_cons.mpr ⟨lw_p99, List.forall_mem_cons.mpr ⟨lw_p100, List.forall_mem_cons.mpr ⟨lw_p101, List.forall_mem_cons.mpr ⟨lw_p102, List.forall_mem_cons.mpr ⟨lw_p103, List.forall_mem_cons.mpr ⟨lw_p104, List.forall_mem_cons.mpr ⟨lw_p105, List.forall_mem_cons.mpr ⟨lw_p106, List.forall_mem_cons.mpr ⟨lw_p107, List.forall_mem_cons.mpr ⟨lw_p108, List.forall_mem_cons.mpr ⟨lw_p109, List.forall_mem_cons.mpr ⟨lw_p110, List.forall_mem_cons.mpr ⟨lw_p111, fun _ h => absurd h List.not_mem_nil⟩⟩⟩⟩⟩⟩⟩⟩⟩⟩⟩⟩⟩⟩⟩⟩
theorem lw_p112 : lw_okq (⟨"HayWritingModel", "setsIn", "(IIII)V"⟩, 101) := ⟨⟨by decide +kernel, by decide +kernel⟩, List.mem_of_getElem? (i := 1467) (by decide +kernel), List.mem_of_getElem? (i := 2084) (by decide +kernel), List.mem_of_getElem? (i := 2085) (by decide +kernel)⟩
theorem lw_p113 : lw_okq (⟨"HayWritingModel", "standsOf", "(III)I"⟩, 101) := ⟨⟨by decide +kernel, by decide +kernel⟩, List.mem_of_getElem? (i := 1467) (by decide +kernel), List.mem_of_getElem? (i := 2096) (by decide +kernel), List.mem_of_getElem? (i := 2097) (by decide +kernel)⟩
theorem lw_p114 : lw_okq (⟨"HayWritingModel", "isRead", "(IIIII)Z"⟩, 101) := ⟨⟨by decide +kernel, by decide +kernel⟩, List.mem_of_getElem? (i := 1467) (by decide +kernel), List.mem_of_getElem? (i := 2100) (by decide +kernel), List.mem_of_getElem? (i := 2101) (by decide +kernel)⟩
theorem lw_p115 : lw_okq (⟨"HayWritingModel", "reads", "()V"⟩, 101) := ⟨⟨by decide +kernel, by decide +kernel⟩, List.mem_of_getElem? (i := 1467) (by decide +kernel), List.mem_of_getElem? (i := 2108) (by decide +kernel), List.mem_of_getElem? (i := 2109) (by decide +kernel)⟩
theorem lw_p116 : lw_okq (⟨"HayWritingModel", "aDay", "(I)V"⟩, 101) := ⟨⟨by decide +kernel, by decide +kernel⟩, List.mem_of_getElem? (i := 1467) (by decide +kernel), List.mem_of_getElem? (i := 2112) (by decide +kernel), List.mem_of_getElem? (i := 2113) (by decide +kernel)⟩
theorem lw_p117 : lw_okq (⟨"HayWritingModel", "eats", "(I)V"⟩, 101) := ⟨⟨by decide +kernel, by decide +kernel⟩, List.mem_of_getElem? (i := 1467) (by decide +kernel), List.mem_of_getElem? (i := 2116) (by decide +kernel), List.mem_of_getElem? (i := 2117) (by decide +kernel)⟩
theorem lw_p118 : lw_okq (⟨"HayWritingModel", "rains", "(I)V"⟩, 101) := ⟨⟨by decide +kernel, by decide +kernel⟩, List.mem_of_getElem? (i := 1467) (by decide +kernel), List.mem_of_getElem? (i := 2120) (by decide +kernel), List.mem_of_getElem? (i := 2121) (by decide +kernel)⟩
theorem lw_p119 : lw_okq (⟨"HayWritingModel", "number1", "(I)I"⟩, 101) := ⟨⟨by decide +kernel, by decide +kernel⟩, List.mem_of_getElem? (i := 1467) (by decide +kernel), List.mem_of_getElem? (i := 2124) (by decide +kernel), List.mem_of_getElem? (i := 2125) (by decide +kernel)⟩
theorem lw_p120 : lw_okq (⟨"HayWritingModel", "layCheapest", "(II)V"⟩, 101) := ⟨⟨by decide +kernel, by decide +kernel⟩, List.mem_of_getElem? (i := 1467) (by decide +kernel), List.mem_of_getElem? (i := 2139) (by decide +kernel), List.mem_of_getElem? (i := 2140) (by decide +kernel)⟩
theorem lw_p121 : lw_okq (⟨"HayWritingModel", "isBarred", "(III)Z"⟩, 101) := ⟨⟨by decide +kernel, by decide +kernel⟩, List.mem_of_getElem? (i := 1467) (by decide +kernel), List.mem_of_getElem? (i := 2143) (by decide +kernel), List.mem_of_getElem? (i := 2144) (by decide +kernel)⟩
theorem lw_p122 : lw_okq (⟨"HayWritingModel", "isOwner", "(I)Z"⟩, 101) := ⟨⟨by decide +kernel, by decide +kernel⟩, List.mem_of_getElem? (i := 1467) (by decide +kernel), List.mem_of_getElem? (i := 2151) (by decide +kernel), List.mem_of_getElem? (i := 2152) (by decide +kernel)⟩
theorem lw_p123 : lw_okq (⟨"HayWritingModel", "layPair", "(IIZ)V"⟩, 101) := ⟨⟨by decide +kernel, by decide +kernel⟩, List.mem_of_getElem? (i := 1467) (by decide +kernel), List.mem_of_getElem? (i := 2159) (by decide +kernel), List.mem_of_getElem? (i := 2160) (by decide +kernel)⟩
theorem lw_p124 : lw_okq (⟨"HayWritingModel", "bothOf", "(IIII)I"⟩, 101) := ⟨⟨by decide +kernel, by decide +kernel⟩, List.mem_of_getElem? (i := 1467) (by decide +kernel), List.mem_of_getElem? (i := 2163) (by decide +kernel), List.mem_of_getElem? (i := 2164) (by decide +kernel)⟩
theorem lw_p125 : lw_okq (⟨"HayWritingModel", "togetherOf", "(IIII)I"⟩, 101) := ⟨⟨by decide +kernel, by decide +kernel⟩, List.mem_of_getElem? (i := 1467) (by decide +kernel), List.mem_of_getElem? (i := 2167) (by decide +kernel), List.mem_of_getElem? (i := 2168) (by decide +kernel)⟩
theorem lw_p126 : lw_okq (⟨"HayWritingModel", "layTried", "()V"⟩, 101) := ⟨⟨by decide +kernel, by decide +kernel⟩, List.mem_of_getElem? (i := 1467) (by decide +kernel), List.mem_of_getElem? (i := 2171) (by decide +kernel), List.mem_of_getElem? (i := 2172) (by decide +kernel)⟩
theorem lw_p127 : lw_okq (⟨"HayWritingModel", "lifeOf", "(IIII)I"⟩, 101) := ⟨⟨by decide +kernel, by decide +kernel⟩, List.mem_of_getElem? (i := 1467) (by decide +kernel), List.mem_of_getElem? (i := 2183) (by decide +kernel), List.mem_of_getElem? (i := 2184) (by decide +kernel)⟩
def lw_privs_8 : List (MethodName × Nat) := [(⟨"HayWritingModel", "setsIn", "(IIII)V"⟩, 101), (⟨"HayWritingModel", "standsOf", "(III)I"⟩, 101), (⟨"HayWritingModel", "isRead", "(IIIII)Z"⟩, 101), (⟨"HayWritingModel", "reads", "()V"⟩, 101), (⟨"HayWritingModel", "aDay", "(I)V"⟩, 101), (⟨"HayWritingModel", "eats", "(I)V"⟩, 101), (⟨"HayWritingModel", "rains", "(I)V"⟩, 101), (⟨"HayWritingModel", "number1", "(I)I"⟩, 101), (⟨"HayWritingModel", "layCheapest", "(II)V"⟩, 101), (⟨"HayWritingModel", "isBarred", "(III)Z"⟩, 101), (⟨"HayWritingModel", "isOwner", "(I)Z"⟩, 101), (⟨"HayWritingModel", "layPair", "(IIZ)V"⟩, 101), (⟨"HayWritingModel", "bothOf", "(IIII)I"⟩, 101), (⟨"HayWritingModel", "togetherOf", "(IIII)I"⟩, 101), (⟨"HayWritingModel", "layTried", "()V"⟩, 101), (⟨"HayWritingModel", "lifeOf", "(IIII)I"⟩, 101)]
theorem lw_r8 : ∀ q ∈ lw_privs_8, lw_okq q := List.forall_mem_cons.mpr ⟨lw_p112, List.forall_mem_cons.mpr ⟨lw_p113, List.forall_mem_cons.mpr ⟨lw_p114, List.forall_mem_cons.mpr ⟨lw_p115, List.forall_mem_cons.mpr ⟨lw_p116, List.forall_mem_cons.mpr ⟨lw_p117, List.forall_mem_cons.mpr ⟨lw_p118, List.forall_mem_cons.mpr ⟨lw_p119, List.forall_mem_cons.mpr ⟨lw_p120, List.forall_mem_cons.mpr ⟨lw_p121, List.forall_mem_cons.mpr ⟨lw_p122, List.forall_mem_cons.mpr ⟨lw_p123, List.forall_mem_cons.mpr ⟨lw_p124, List.forall_mem_cons.mpr ⟨lw_p125, List.forall_mem_cons.mpr ⟨lw_p126, List.forall_mem_cons.mpr ⟨lw_p127, fun _ h => absurd h List.not_mem_nil⟩⟩⟩⟩⟩⟩⟩⟩⟩⟩⟩⟩⟩⟩⟩⟩
theorem lw_p128 : lw_okq (⟨"HayWritingModel", "laySummer", "(III)V"⟩, 101) := ⟨⟨by decide +kernel, by decide +kernel⟩, List.mem_of_getElem? (i := 1467) (by decide +kernel), List.mem_of_getElem? (i := 2196) (by decide +kernel), List.mem_of_getElem? (i := 2197) (by decide +kernel)⟩
theorem lw_p129 : lw_okq (⟨"HayWritingModel", "isOrder", "(I)Z"⟩, 101) := ⟨⟨by decide +kernel, by decide +kernel⟩, List.mem_of_getElem? (i := 1467) (by decide +kernel), List.mem_of_getElem? (i := 2200) (by decide +kernel), List.mem_of_getElem? (i := 2201) (by decide +kernel)⟩
theorem lw_p130 : lw_okq (⟨"HayWritingModel", "summerOf", "(II)I"⟩, 101) := ⟨⟨by decide +kernel, by decide +kernel⟩, List.mem_of_getElem? (i := 1467) (by decide +kernel), List.mem_of_getElem? (i := 2204) (by decide +kernel), List.mem_of_getElem? (i := 2205) (by decide +kernel)⟩
theorem lw_p131 : lw_okq (⟨"HayWritingModel", "nextOrder", "()Z"⟩, 101) := ⟨⟨by decide +kernel, by decide +kernel⟩, List.mem_of_getElem? (i := 1467) (by decide +kernel), List.mem_of_getElem? (i := 2208) (by decide +kernel), List.mem_of_getElem? (i := 2209) (by decide +kernel)⟩
theorem lw_p132 : lw_okq (⟨"HayWritingModel", "isRow", "(I)Z"⟩, 101) := ⟨⟨by decide +kernel, by decide +kernel⟩, List.mem_of_getElem? (i := 1467) (by decide +kernel), List.mem_of_getElem? (i := 2216) (by decide +kernel), List.mem_of_getElem? (i := 2217) (by decide +kernel)⟩
theorem lw_p133 : lw_okq (⟨"HayWritingModel", "usedOf", "(II)I"⟩, 101) := ⟨⟨by decide +kernel, by decide +kernel⟩, List.mem_of_getElem? (i := 1467) (by decide +kernel), List.mem_of_getElem? (i := 2220) (by decide +kernel), List.mem_of_getElem? (i := 2221) (by decide +kernel)⟩
theorem lw_p134 : lw_okq (⟨"HayWritingModel", "meantBy", "(II)I"⟩, 101) := ⟨⟨by decide +kernel, by decide +kernel⟩, List.mem_of_getElem? (i := 1467) (by decide +kernel), List.mem_of_getElem? (i := 2240) (by decide +kernel), List.mem_of_getElem? (i := 2241) (by decide +kernel)⟩
theorem lw_p135 : lw_okq (⟨"HayWritingModel", "beginOf", "(II)I"⟩, 101) := ⟨⟨by decide +kernel, by decide +kernel⟩, List.mem_of_getElem? (i := 1467) (by decide +kernel), List.mem_of_getElem? (i := 2248) (by decide +kernel), List.mem_of_getElem? (i := 2249) (by decide +kernel)⟩
theorem lw_p136 : lw_okq (⟨"HayWritingModel", "layFar", "()V"⟩, 101) := ⟨⟨by decide +kernel, by decide +kernel⟩, List.mem_of_getElem? (i := 1467) (by decide +kernel), List.mem_of_getElem? (i := 2256) (by decide +kernel), List.mem_of_getElem? (i := 2257) (by decide +kernel)⟩
theorem lw_p137 : lw_okq (⟨"HayWritingModel", "mayBe", "(III)Z"⟩, 101) := ⟨⟨by decide +kernel, by decide +kernel⟩, List.mem_of_getElem? (i := 1467) (by decide +kernel), List.mem_of_getElem? (i := 2265) (by decide +kernel), List.mem_of_getElem? (i := 2266) (by decide +kernel)⟩
theorem lw_p138 : lw_okq (⟨"HayWritingModel", "mayStand", "(III)I"⟩, 101) := ⟨⟨by decide +kernel, by decide +kernel⟩, List.mem_of_getElem? (i := 1467) (by decide +kernel), List.mem_of_getElem? (i := 2273) (by decide +kernel), List.mem_of_getElem? (i := 2274) (by decide +kernel)⟩
theorem lw_p139 : lw_okq (⟨"HayWritingModel", "noted", "(III)I"⟩, 101) := ⟨⟨by decide +kernel, by decide +kernel⟩, List.mem_of_getElem? (i := 1467) (by decide +kernel), List.mem_of_getElem? (i := 2285) (by decide +kernel), List.mem_of_getElem? (i := 2286) (by decide +kernel)⟩
theorem lw_p140 : lw_okq (⟨"HayWritingModel", "layTales", "(I)V"⟩, 101) := ⟨⟨by decide +kernel, by decide +kernel⟩, List.mem_of_getElem? (i := 1467) (by decide +kernel), List.mem_of_getElem? (i := 2301) (by decide +kernel), List.mem_of_getElem? (i := 2302) (by decide +kernel)⟩
theorem lw_p141 : lw_okq (⟨"HayWritingModel", "knownBy", "()I"⟩, 101) := ⟨⟨by decide +kernel, by decide +kernel⟩, List.mem_of_getElem? (i := 1467) (by decide +kernel), List.mem_of_getElem? (i := 2305) (by decide +kernel), List.mem_of_getElem? (i := 2306) (by decide +kernel)⟩
theorem lw_p142 : lw_okq (⟨"HayWritingModel", "isTale", "(III)Z"⟩, 101) := ⟨⟨by decide +kernel, by decide +kernel⟩, List.mem_of_getElem? (i := 1467) (by decide +kernel), List.mem_of_getElem? (i := 2309) (by decide +kernel), List.mem_of_getElem? (i := 2310) (by decide +kernel)⟩
theorem lw_p143 : lw_okq (⟨"HayWritingModel", "stacksOf", "(I)I"⟩, 101) := ⟨⟨by decide +kernel, by decide +kernel⟩, List.mem_of_getElem? (i := 1467) (by decide +kernel), List.mem_of_getElem? (i := 2321) (by decide +kernel), List.mem_of_getElem? (i := 2322) (by decide +kernel)⟩
def lw_privs_9 : List (MethodName × Nat) := [(⟨"HayWritingModel", "laySummer", "(III)V"⟩, 101), (⟨"HayWritingModel", "isOrder", "(I)Z"⟩, 101), (⟨"HayWritingModel", "summerOf", "(II)I"⟩, 101), (⟨"HayWritingModel", "nextOrder", "()Z"⟩, 101), (⟨"HayWritingModel", "isRow", "(I)Z"⟩, 101), (⟨"HayWritingModel", "usedOf", "(II)I"⟩, 101), (⟨"HayWritingModel", "meantBy", "(II)I"⟩, 101), (⟨"HayWritingModel", "beginOf", "(II)I"⟩, 101), (⟨"HayWritingModel", "layFar", "()V"⟩, 101), (⟨"HayWritingModel", "mayBe", "(III)Z"⟩, 101), (⟨"HayWritingModel", "mayStand", "(III)I"⟩, 101), (⟨"HayWritingModel", "noted", "(III)I"⟩, 101), (⟨"HayWritingModel", "layTales", "(I)V"⟩, 101), (⟨"HayWritingModel", "knownBy", "()I"⟩, 101), (⟨"HayWritingModel", "isTale", "(III)Z"⟩, 101), (⟨"HayWritingModel", "stacksOf", "(I)I"⟩, 101)]
theorem lw_r9 : ∀ q ∈ lw_privs_9, lw_okq q := List.forall_mem_cons.mpr ⟨lw_p128, List.forall_mem_cons.mpr ⟨lw_p129, List.forall_mem_cons.mpr ⟨lw_p130, List.forall_mem_cons.mpr ⟨lw_p131, List.forall_mem_cons.mpr ⟨lw_p132, List.forall_mem_cons.mpr ⟨lw_p133, List.forall_mem_cons.mpr ⟨lw_p134, List.forall_mem_cons.mpr ⟨lw_p135, List.forall_mem_cons.mpr ⟨lw_p136, List.forall_mem_cons.mpr ⟨lw_p137, List.forall_mem_cons.mpr ⟨lw_p138, List.forall_mem_cons.mpr ⟨lw_p139, List.forall_mem_cons.mpr ⟨lw_p140, List.forall_mem_cons.mpr ⟨lw_p141, List.forall_mem_cons.mpr ⟨lw_p142, List.forall_mem_cons.mpr ⟨lw_p143, fun _ h => absurd h List.not_mem_nil⟩⟩⟩⟩⟩⟩⟩⟩⟩⟩⟩⟩⟩⟩⟩⟩
theorem lw_p144 : lw_okq (⟨"HayWritingModel", "take", "([II)V"⟩, 101) := ⟨⟨by decide +kernel, by decide +kernel⟩, List.mem_of_getElem? (i := 1467) (by decide +kernel), List.mem_of_getElem? (i := 2329) (by decide +kernel), List.mem_of_getElem? (i := 2330) (by decide +kernel)⟩
def lw_privs_10 : List (MethodName × Nat) := [(⟨"HayWritingModel", "take", "([II)V"⟩, 101)]
theorem lw_r10 : ∀ q ∈ lw_privs_10, lw_okq q := List.forall_mem_cons.mpr ⟨lw_p144, fun _ h => absurd h List.not_mem_nil⟩
def lw_privs : List (MethodName × Nat) := lw_privs_1 ++ (lw_privs_2 ++ (lw_privs_3 ++ (lw_privs_4 ++ (lw_privs_5 ++ (lw_privs_6 ++ (lw_privs_7 ++ (lw_privs_8 ++ (lw_privs_9 ++ (lw_privs_10)))))))))
def lw_tbl : List Cond := k2_sels lw_privs ++ tables_1
theorem lw_privs_ok : ∀ q ∈ lw_privs, lw_okq q := by
  show ∀ q ∈ lw_privs_1 ++ (lw_privs_2 ++ (lw_privs_3 ++ (lw_privs_4 ++ (lw_privs_5 ++ (lw_privs_6 ++ (lw_privs_7 ++ (lw_privs_8 ++ (lw_privs_9 ++ (lw_privs_10))))))))), lw_okq q
  exact List.forall_mem_append.mpr ⟨lw_r1, List.forall_mem_append.mpr ⟨lw_r2, List.forall_mem_append.mpr ⟨lw_r3, List.forall_mem_append.mpr ⟨lw_r4, List.forall_mem_append.mpr ⟨lw_r5, List.forall_mem_append.mpr ⟨lw_r6, List.forall_mem_append.mpr ⟨lw_r7, List.forall_mem_append.mpr ⟨lw_r8, List.forall_mem_append.mpr ⟨lw_r9, lw_r10⟩⟩⟩⟩⟩⟩⟩⟩⟩
-- ===== end of PART A; then your names; then what follows =====
end
section
def RX0 : String := "HayWriting$Hills"
def TX0 : u_T := fun k => match k with
  | 0 => ("HayWriting$Hills", "hills", "I", false)
  | 1 => ("HayWriting$Hills", "links", "I", false)
  | 2 => ("HayWriting$Hills", "hillName", "[I", true)
  | 3 => ("HayWriting$Hills", "sight", "[I", true)
  | 4 => ("HayWriting$Hills", "oneEnd", "[I", true)
  | 5 => ("HayWriting$Hills", "otherEnd", "[I", true)
  | _ => ("HayWriting$Hills", "length", "[I", true)
def tyX0 : Nat → FieldType := fun k => match k with
  | 0 => .int
  | 1 => .int
  | 2 => .array .int
  | 3 => .array .int
  | 4 => .array .int
  | 5 => .array .int
  | _ => .array .int
abbrev wsX00 : List Cond := u_ws RX0 TX0 7
theorem nmX0 : ∀ a, a < 7 → ∀ b, b < 7 → a ≠ b → (TX0 a).2.1 ≠ (TX0 b).2.1 := by decide +kernel
theorem tyX0_ok : ∀ k, k < 7 → parseFieldDescriptor (TX0 k).2.2.1 = some (tyX0 k) := by decide +kernel
abbrev cX0_init : ByteArray := prog_2_method_1_code
def yX0_init : MethodName := ⟨RX0, "<init>", "()V"⟩
abbrev cX0_clear : ByteArray := prog_2_method_2_code
def yX0_clear : MethodName := ⟨RX0, "clear", "()V"⟩
abbrev cX0_hasHill : ByteArray := prog_2_method_3_code
def yX0_hasHill : MethodName := ⟨RX0, "hasHill", "(I)Z"⟩
abbrev cX0_addHill : ByteArray := prog_2_method_4_code
def yX0_addHill : MethodName := ⟨RX0, "addHill", "(II)V"⟩
abbrev cX0_addLink : ByteArray := prog_2_method_5_code
def yX0_addLink : MethodName := ⟨RX0, "addLink", "(III)V"⟩
abbrev cX0_areLinked : ByteArray := prog_2_method_6_code
def yX0_areLinked : MethodName := ⟨RX0, "areLinked", "(II)Z"⟩
abbrev cX0_seenFrom : ByteArray := prog_2_method_7_code
def yX0_seenFrom : MethodName := ⟨RX0, "seenFrom", "(II)I"⟩
abbrev cX0_readFrom : ByteArray := prog_2_method_8_code
def yX0_readFrom : MethodName := ⟨RX0, "readFrom", "(IILHayWriting$Script;)I"⟩
abbrev cX0_spread : ByteArray := prog_2_method_9_code
def yX0_spread : MethodName := ⟨RX0, "spread", "([I)V"⟩
def RX1 : String := "HayWriting$Law"
def TX1 : u_T := fun k => match k with
  | 0 => ("HayWriting$Law", "knots", "I", false)
  | 1 => ("HayWriting$Law", "kind", "[I", true)
  | 2 => ("HayWriting$Law", "number", "[I", true)
  | 3 => ("HayWriting$Law", "names", "[I", true)
  | _ => ("HayWriting$Law", "pile", "[J", true)
def tyX1 : Nat → FieldType := fun k => match k with
  | 0 => .int
  | 1 => .array .int
  | 2 => .array .int
  | 3 => .array .int
  | _ => .array .long
abbrev wsX10 : List Cond := u_ws RX1 TX1 5
theorem nmX1 : ∀ a, a < 5 → ∀ b, b < 5 → a ≠ b → (TX1 a).2.1 ≠ (TX1 b).2.1 := by decide +kernel
theorem tyX1_ok : ∀ k, k < 5 → parseFieldDescriptor (TX1 k).2.2.1 = some (tyX1 k) := by decide +kernel
abbrev cX1_init : ByteArray := prog_3_method_1_code
def yX1_init : MethodName := ⟨RX1, "<init>", "()V"⟩
abbrev cX1_add : ByteArray := prog_3_method_2_code
def yX1_add : MethodName := ⟨RX1, "add", "(II)V"⟩
abbrev cX1_work : ByteArray := prog_3_method_3_code
def yX1_work : MethodName := ⟨RX1, "work", "(LHayWriting$Told;LHayWriting$Scene;I)J"⟩
abbrev cX1_lookAt : ByteArray := prog_3_method_4_code
def yX1_lookAt : MethodName := ⟨RX1, "lookAt", "(LHayWriting$Told;LHayWriting$Scene;I)V"⟩
abbrev cX1_join : ByteArray := prog_3_method_5_code
def yX1_join : MethodName := ⟨RX1, "join", "(IJJ)J"⟩
abbrev cX1_bounded : ByteArray := prog_3_method_6_code
def yX1_bounded : MethodName := ⟨RX1, "bounded", "(J)J"⟩
abbrev cX1_product : ByteArray := prog_3_method_7_code
def yX1_product : MethodName := ⟨RX1, "product", "(JJ)J"⟩
def RX2 : String := "HayWriting$Notes"
def TX2 : u_T := fun k => match k with
  | 0 => ("HayWriting$Notes", "written", "I", false)
  | 1 => ("HayWriting$Notes", "knownBy", "I", false)
  | 2 => ("HayWriting$Notes", "hill", "[I", true)
  | 3 => ("HayWriting$Notes", "field", "[I", true)
  | 4 => ("HayWriting$Notes", "letter", "[I", true)
  | 5 => ("HayWriting$Notes", "target", "[I", true)
  | _ => ("HayWriting$Notes", "struck", "[Z", true)
def tyX2 : Nat → FieldType := fun k => match k with
  | 0 => .int
  | 1 => .int
  | 2 => .array .int
  | 3 => .array .int
  | 4 => .array .int
  | 5 => .array .int
  | _ => .array .boolean
abbrev wsX20 : List Cond := u_ws RX2 TX2 7
theorem nmX2 : ∀ a, a < 7 → ∀ b, b < 7 → a ≠ b → (TX2 a).2.1 ≠ (TX2 b).2.1 := by decide +kernel
theorem tyX2_ok : ∀ k, k < 7 → parseFieldDescriptor (TX2 k).2.2.1 = some (tyX2 k) := by decide +kernel
abbrev cX2_init : ByteArray := prog_4_method_1_code
def yX2_init : MethodName := ⟨RX2, "<init>", "()V"⟩
abbrev cX2_clear : ByteArray := prog_4_method_2_code
def yX2_clear : MethodName := ⟨RX2, "clear", "()V"⟩
abbrev cX2_write : ByteArray := prog_4_method_3_code
def yX2_write : MethodName := ⟨RX2, "write", "(IIII)I"⟩
abbrev cX2_knownMany : ByteArray := prog_4_method_4_code
def yX2_knownMany : MethodName := ⟨RX2, "knownMany", "()I"⟩
abbrev cX2_weigh : ByteArray := prog_4_method_5_code
def yX2_weigh : MethodName := ⟨RX2, "weigh", "()V"⟩
abbrev cX2_counts : ByteArray := prog_4_method_6_code
def yX2_counts : MethodName := ⟨RX2, "counts", "(I)Z"⟩
def RX3 : String := "HayWriting$Past"
def TX3 : u_T := fun k => match k with
  | 0 => ("HayWriting$Past", "size", "I", false)
  | _ => ("HayWriting$Past", "rows", "[I", true)
def tyX3 : Nat → FieldType := fun k => match k with
  | 0 => .int
  | _ => .array .int
abbrev wsX30 : List Cond := u_ws RX3 TX3 2
theorem nmX3 : ∀ a, a < 2 → ∀ b, b < 2 → a ≠ b → (TX3 a).2.1 ≠ (TX3 b).2.1 := by decide +kernel
theorem tyX3_ok : ∀ k, k < 2 → parseFieldDescriptor (TX3 k).2.2.1 = some (tyX3 k) := by decide +kernel
abbrev cX3_init : ByteArray := prog_5_method_1_code
def yX3_init : MethodName := ⟨RX3, "<init>", "()V"⟩
abbrev cX3_forget : ByteArray := prog_5_method_2_code
def yX3_forget : MethodName := ⟨RX3, "forget", "()V"⟩
abbrev cX3_remember : ByteArray := prog_5_method_3_code
def yX3_remember : MethodName := ⟨RX3, "remember", "(LHayWriting$Scene;)V"⟩
abbrev cX3_restore : ByteArray := prog_5_method_4_code
def yX3_restore : MethodName := ⟨RX3, "restore", "(LHayWriting$Scene;)V"⟩
def RX4 : String := "HayWriting$Reader"
def TX4 : u_T := fun k => match k with
  | 0 => ("HayWriting$Reader", "fault", "I", false)
  | 1 => ("HayWriting$Reader", "faultPlace", "I", false)
  | 2 => ("HayWriting$Reader", "tokens", "LHayWriting$Tokens;", true)
  | 3 => ("HayWriting$Reader", "told", "LHayWriting$Told;", false)
  | 4 => ("HayWriting$Reader", "at", "I", false)
  | 5 => ("HayWriting$Reader", "knots", "I", false)
  | 6 => ("HayWriting$Reader", "open", "I", false)
  | 7 => ("HayWriting$Reader", "valueWanted", "Z", false)
  | 8 => ("HayWriting$Reader", "waiting", "[I", true)
  | _ => ("HayWriting$Reader", "waitingMany", "I", false)
def tyX4 : Nat → FieldType := fun k => match k with
  | 0 => .int
  | 1 => .int
  | 2 => .object "HayWriting$Tokens"
  | 3 => .object "HayWriting$Told"
  | 4 => .int
  | 5 => .int
  | 6 => .int
  | 7 => .boolean
  | 8 => .array .int
  | _ => .int
abbrev wsX40 : List Cond := u_ws RX4 TX4 10
theorem nmX4 : ∀ a, a < 10 → ∀ b, b < 10 → a ≠ b → (TX4 a).2.1 ≠ (TX4 b).2.1 := by decide +kernel
theorem tyX4_ok : ∀ k, k < 10 → parseFieldDescriptor (TX4 k).2.2.1 = some (tyX4 k) := by decide +kernel
abbrev cX4_init : ByteArray := prog_6_method_1_code
def yX4_init : MethodName := ⟨RX4, "<init>", "(LHayWriting$Tokens;)V"⟩
abbrev cX4_readInto : ByteArray := prog_6_method_2_code
def yX4_readInto : MethodName := ⟨RX4, "readInto", "(LHayWriting$Told;)Z"⟩
abbrev cX4_kindHere : ByteArray := prog_6_method_3_code
def yX4_kindHere : MethodName := ⟨RX4, "kindHere", "()I"⟩
abbrev cX4_goOn : ByteArray := prog_6_method_4_code
def yX4_goOn : MethodName := ⟨RX4, "goOn", "()V"⟩
abbrev cX4_refused : ByteArray := prog_6_method_5_code
def yX4_refused : MethodName := ⟨RX4, "refused", "(I)Z"⟩
abbrev cX4_refuse : ByteArray := prog_6_method_6_code
def yX4_refuse : MethodName := ⟨RX4, "refuse", "(I)I"⟩
abbrev cX4_readLine : ByteArray := prog_6_method_7_code
def yX4_readLine : MethodName := ⟨RX4, "readLine", "()Z"⟩
abbrev cX4_readListed : ByteArray := prog_6_method_8_code
def yX4_readListed : MethodName := ⟨RX4, "readListed", "(I)Z"⟩
abbrev cX4_isFull : ByteArray := prog_6_method_9_code
def yX4_isFull : MethodName := ⟨RX4, "isFull", "(I)Z"⟩
abbrev cX4_readOnce : ByteArray := prog_6_method_10_code
def yX4_readOnce : MethodName := ⟨RX4, "readOnce", "(I)Z"⟩
abbrev cX4_readNumber : ByteArray := prog_6_method_11_code
def yX4_readNumber : MethodName := ⟨RX4, "readNumber", "(II)I"⟩
abbrev cX4_readNewName : ByteArray := prog_6_method_12_code
def yX4_readNewName : MethodName := ⟨RX4, "readNewName", "([II)I"⟩
abbrev cX4_readToldName : ByteArray := prog_6_method_13_code
def yX4_readToldName : MethodName := ⟨RX4, "readToldName", "([II)I"⟩
abbrev cX4_readPlain : ByteArray := prog_6_method_14_code
def yX4_readPlain : MethodName := ⟨RX4, "readPlain", "()Z"⟩
abbrev cX4_readOwner : ByteArray := prog_6_method_15_code
def yX4_readOwner : MethodName := ⟨RX4, "readOwner", "()Z"⟩
abbrev cX4_readStrip : ByteArray := prog_6_method_16_code
def yX4_readStrip : MethodName := ⟨RX4, "readStrip", "()Z"⟩
abbrev cX4_readGlyph : ByteArray := prog_6_method_17_code
def yX4_readGlyph : MethodName := ⟨RX4, "readGlyph", "()Z"⟩
abbrev cX4_readWord : ByteArray := prog_6_method_18_code
def yX4_readWord : MethodName := ⟨RX4, "readWord", "()Z"⟩
abbrev cX4_readHill : ByteArray := prog_6_method_19_code
def yX4_readHill : MethodName := ⟨RX4, "readHill", "()Z"⟩
abbrev cX4_readWash : ByteArray := prog_6_method_20_code
def yX4_readWash : MethodName := ⟨RX4, "readWash", "()Z"⟩
abbrev cX4_readSign : ByteArray := prog_6_method_21_code
def yX4_readSign : MethodName := ⟨RX4, "readSign", "()Z"⟩
abbrev cX4_readLink : ByteArray := prog_6_method_22_code
def yX4_readLink : MethodName := ⟨RX4, "readLink", "()Z"⟩
abbrev cX4_readLaw : ByteArray := prog_6_method_23_code
def yX4_readLaw : MethodName := ⟨RX4, "readLaw", "()Z"⟩
abbrev cX4_isLawOver : ByteArray := prog_6_method_24_code
def yX4_isLawOver : MethodName := ⟨RX4, "isLawOver", "()Z"⟩
abbrev cX4_readValue : ByteArray := prog_6_method_25_code
def yX4_readValue : MethodName := ⟨RX4, "readValue", "()Z"⟩
abbrev cX4_readSignBehind : ByteArray := prog_6_method_26_code
def yX4_readSignBehind : MethodName := ⟨RX4, "readSignBehind", "()Z"⟩
abbrev cX4_isKnot : ByteArray := prog_6_method_27_code
def yX4_isKnot : MethodName := ⟨RX4, "isKnot", "()Z"⟩
abbrev cX4_await : ByteArray := prog_6_method_28_code
def yX4_await : MethodName := ⟨RX4, "await", "(I)Z"⟩
abbrev cX4_settle : ByteArray := prog_6_method_29_code
def yX4_settle : MethodName := ⟨RX4, "settle", "(I)V"⟩
abbrev cX4_rankOf : ByteArray := prog_6_method_30_code
def yX4_rankOf : MethodName := ⟨RX4, "rankOf", "(I)I"⟩
def RX5 : String := "HayWriting$Scene"
def TX5 : u_T := fun k => match k with
  | 0 => ("HayWriting$Scene", "day", "I", false)
  | 1 => ("HayWriting$Scene", "purse", "I", false)
  | 2 => ("HayWriting$Scene", "lastNumber", "I", false)
  | 3 => ("HayWriting$Scene", "hung", "I", false)
  | 4 => ("HayWriting$Scene", "shape", "[I", true)
  | _ => ("HayWriting$Scene", "readOn", "[I", true)
def tyX5 : Nat → FieldType := fun k => match k with
  | 0 => .int
  | 1 => .int
  | 2 => .int
  | 3 => .int
  | 4 => .array .int
  | _ => .array .int
abbrev wsX50 : List Cond := u_ws RX5 TX5 6
theorem nmX5 : ∀ a, a < 6 → ∀ b, b < 6 → a ≠ b → (TX5 a).2.1 ≠ (TX5 b).2.1 := by decide +kernel
theorem tyX5_ok : ∀ k, k < 6 → parseFieldDescriptor (TX5 k).2.2.1 = some (tyX5 k) := by decide +kernel
abbrev cX5_init : ByteArray := prog_7_method_1_code
def yX5_init : MethodName := ⟨RX5, "<init>", "()V"⟩
abbrev cX5_begin : ByteArray := prog_7_method_2_code
def yX5_begin : MethodName := ⟨RX5, "begin", "(LHayWriting$Told;)V"⟩
abbrev cX5_clearFields : ByteArray := prog_7_method_3_code
def yX5_clearFields : MethodName := ⟨RX5, "clearFields", "()V"⟩
abbrev cX5_copy : ByteArray := prog_7_method_4_code
def yX5_copy : MethodName := ⟨RX5, "copy", "(LHayWriting$Scene;)V"⟩
abbrev cX5_stacksInAll : ByteArray := prog_7_method_5_code
def yX5_stacksInAll : MethodName := ⟨RX5, "stacksInAll", "()I"⟩
abbrev cX5_pass : ByteArray := prog_7_method_6_code
def yX5_pass : MethodName := ⟨RX5, "pass", "(LHayWriting$Told;I)V"⟩
abbrev cX5_cutThoseDue : ByteArray := prog_7_method_7_code
def yX5_cutThoseDue : MethodName := ⟨RX5, "cutThoseDue", "(LHayWriting$Told;)V"⟩
abbrev cX5_cutOwner : ByteArray := prog_7_method_8_code
def yX5_cutOwner : MethodName := ⟨RX5, "cutOwner", "(LHayWriting$Told;I)V"⟩
abbrev cX5_eat : ByteArray := prog_7_method_9_code
def yX5_eat : MethodName := ⟨RX5, "eat", "(LHayWriting$Told;)V"⟩
abbrev cX5_rainOn : ByteArray := prog_7_method_10_code
def yX5_rainOn : MethodName := ⟨RX5, "rainOn", "(LHayWriting$Told;)V"⟩
abbrev cX5_nextNumber : ByteArray := prog_7_method_11_code
def yX5_nextNumber : MethodName := ⟨RX5, "nextNumber", "()I"⟩
def RX6 : String := "HayWriting$Script"
def TX6 : u_T := fun k => match k with
  | 0 => ("HayWriting$Script", "glyphs", "I", false)
  | 1 => ("HayWriting$Script", "words", "I", false)
  | 2 => ("HayWriting$Script", "glyphLetter", "[I", true)
  | 3 => ("HayWriting$Script", "glyphShape", "[I", true)
  | 4 => ("HayWriting$Script", "shapeOf", "[I", true)
  | 5 => ("HayWriting$Script", "wordName", "[I", true)
  | 6 => ("HayWriting$Script", "wordLength", "[I", true)
  | _ => ("HayWriting$Script", "worth", "[I", true)
def tyX6 : Nat → FieldType := fun k => match k with
  | 0 => .int
  | 1 => .int
  | 2 => .array .int
  | 3 => .array .int
  | 4 => .array .int
  | 5 => .array .int
  | 6 => .array .int
  | _ => .array .int
abbrev wsX60 : List Cond := u_ws RX6 TX6 8
theorem nmX6 : ∀ a, a < 8 → ∀ b, b < 8 → a ≠ b → (TX6 a).2.1 ≠ (TX6 b).2.1 := by decide +kernel
theorem tyX6_ok : ∀ k, k < 8 → parseFieldDescriptor (TX6 k).2.2.1 = some (tyX6 k) := by decide +kernel
abbrev cX6_init : ByteArray := prog_8_method_1_code
def yX6_init : MethodName := ⟨RX6, "<init>", "()V"⟩
abbrev cX6_clear : ByteArray := prog_8_method_2_code
def yX6_clear : MethodName := ⟨RX6, "clear", "()V"⟩
abbrev cX6_hasWord : ByteArray := prog_8_method_3_code
def yX6_hasWord : MethodName := ⟨RX6, "hasWord", "(I)Z"⟩
abbrev cX6_addGlyph : ByteArray := prog_8_method_4_code
def yX6_addGlyph : MethodName := ⟨RX6, "addGlyph", "(II)V"⟩
abbrev cX6_addWord : ByteArray := prog_8_method_5_code
def yX6_addWord : MethodName := ⟨RX6, "addWord", "(II)V"⟩
abbrev cX6_letterOf : ByteArray := prog_8_method_6_code
def yX6_letterOf : MethodName := ⟨RX6, "letterOf", "(II)I"⟩
abbrev cX6_shapeIn : ByteArray := prog_8_method_7_code
def yX6_shapeIn : MethodName := ⟨RX6, "shapeIn", "(II)I"⟩
abbrev cX6_isVowel : ByteArray := prog_8_method_8_code
def yX6_isVowel : MethodName := ⟨RX6, "isVowel", "(I)Z"⟩
abbrev cX6_glyphsOver : ByteArray := prog_8_method_9_code
def yX6_glyphsOver : MethodName := ⟨RX6, "glyphsOver", "(II)I"⟩
abbrev cX6_growsInto : ByteArray := prog_8_method_10_code
def yX6_growsInto : MethodName := ⟨RX6, "growsInto", "(III)Z"⟩
abbrev cX6_worthiest : ByteArray := prog_8_method_11_code
def yX6_worthiest : MethodName := ⟨RX6, "worthiest", "(I)I"⟩
def RX7 : String := "HayWriting$Search"
def TX7 : u_T := fun k => match k with
  | 0 => ("HayWriting$Search", "leastCost", "I", false)
  | 1 => ("HayWriting$Search", "pairCost", "I", false)
  | 2 => ("HayWriting$Search", "onePlace", "I", false)
  | 3 => ("HayWriting$Search", "otherPlace", "I", false)
  | 4 => ("HayWriting$Search", "bestWord", "I", false)
  | 5 => ("HayWriting$Search", "bestPay", "I", false)
  | 6 => ("HayWriting$Search", "bestSum", "I", false)
  | 7 => ("HayWriting$Search", "talesFound", "I", false)
  | 8 => ("HayWriting$Search", "bestOrder", "[I", true)
  | 9 => ("HayWriting$Search", "told", "LHayWriting$Told;", true)
  | 10 => ("HayWriting$Search", "now", "LHayWriting$Scene;", true)
  | 11 => ("HayWriting$Search", "trial", "LHayWriting$Scene;", true)
  | 12 => ("HayWriting$Search", "otherFee", "[I", true)
  | 13 => ("HayWriting$Search", "letters", "[I", true)
  | 14 => ("HayWriting$Search", "since", "[I", true)
  | 15 => ("HayWriting$Search", "chosen", "[I", true)
  | 16 => ("HayWriting$Search", "order", "[I", true)
  | _ => ("HayWriting$Search", "setAt", "[I", true)
def tyX7 : Nat → FieldType := fun k => match k with
  | 0 => .int
  | 1 => .int
  | 2 => .int
  | 3 => .int
  | 4 => .int
  | 5 => .int
  | 6 => .int
  | 7 => .int
  | 8 => .array .int
  | 9 => .object "HayWriting$Told"
  | 10 => .object "HayWriting$Scene"
  | 11 => .object "HayWriting$Scene"
  | 12 => .array .int
  | 13 => .array .int
  | 14 => .array .int
  | 15 => .array .int
  | 16 => .array .int
  | _ => .array .int
abbrev wsX70 : List Cond := u_ws RX7 TX7 18
theorem nmX7 : ∀ a, a < 18 → ∀ b, b < 18 → a ≠ b → (TX7 a).2.1 ≠ (TX7 b).2.1 := by decide +kernel
theorem tyX7_ok : ∀ k, k < 18 → parseFieldDescriptor (TX7 k).2.2.1 = some (tyX7 k) := by decide +kernel
abbrev cX7_init : ByteArray := prog_9_method_1_code
def yX7_init : MethodName := ⟨RX7, "<init>", "(LHayWriting$Told;LHayWriting$Scene;)V"⟩
abbrev cX7_places : ByteArray := prog_9_method_2_code
def yX7_places : MethodName := ⟨RX7, "places", "()I"⟩
abbrev cX7_costOf : ByteArray := prog_9_method_3_code
def yX7_costOf : MethodName := ⟨RX7, "costOf", "(LHayWriting$Scene;[IIII)I"⟩
abbrev cX7_put : ByteArray := prog_9_method_4_code
def yX7_put : MethodName := ⟨RX7, "put", "(LHayWriting$Scene;III)V"⟩
abbrev cX7_isRead : ByteArray := prog_9_method_5_code
def yX7_isRead : MethodName := ⟨RX7, "isRead", "(LHayWriting$Scene;III)Z"⟩
abbrev cX7_readAll : ByteArray := prog_9_method_6_code
def yX7_readAll : MethodName := ⟨RX7, "readAll", "(I)V"⟩
abbrev cX7_placesRead : ByteArray := prog_9_method_7_code
def yX7_placesRead : MethodName := ⟨RX7, "placesRead", "(I)I"⟩
abbrev cX7_isWritten : ByteArray := prog_9_method_8_code
def yX7_isWritten : MethodName := ⟨RX7, "isWritten", "(III)Z"⟩
abbrev cX7_writeDownReading : ByteArray := prog_9_method_9_code
def yX7_writeDownReading : MethodName := ⟨RX7, "writeDownReading", "()V"⟩
abbrev cX7_knownSince : ByteArray := prog_9_method_10_code
def yX7_knownSince : MethodName := ⟨RX7, "knownSince", "(II)I"⟩
abbrev cX7_readSince : ByteArray := prog_9_method_11_code
def yX7_readSince : MethodName := ⟨RX7, "readSince", "(II)I"⟩
abbrev cX7_cheapestPlace : ByteArray := prog_9_method_12_code
def yX7_cheapestPlace : MethodName := ⟨RX7, "cheapestPlace", "(LHayWriting$Scene;[II)I"⟩
abbrev cX7_leastWithFee : ByteArray := prog_9_method_13_code
def yX7_leastWithFee : MethodName := ⟨RX7, "leastWithFee", "(III)I"⟩
abbrev cX7_placeBoth : ByteArray := prog_9_method_14_code
def yX7_placeBoth : MethodName := ⟨RX7, "placeBoth", "(IIZ)V"⟩
abbrev cX7_placeOther : ByteArray := prog_9_method_15_code
def yX7_placeOther : MethodName := ⟨RX7, "placeOther", "(IIIIZ)V"⟩
abbrev cX7_cross : ByteArray := prog_9_method_16_code
def yX7_cross : MethodName := ⟨RX7, "cross", "(IIII)Z"⟩
abbrev cX7_shareOf : ByteArray := prog_9_method_17_code
def yX7_shareOf : MethodName := ⟨RX7, "shareOf", "(II)I"⟩
abbrev cX7_lifeOf : ByteArray := prog_9_method_18_code
def yX7_lifeOf : MethodName := ⟨RX7, "lifeOf", "(IIII)I"⟩
abbrev cX7_payBest : ByteArray := prog_9_method_19_code
def yX7_payBest : MethodName := ⟨RX7, "payBest", "(I)V"⟩
abbrev cX7_orderBest : ByteArray := prog_9_method_20_code
def yX7_orderBest : MethodName := ⟨RX7, "orderBest", "(III)V"⟩
abbrev cX7_isOrder : ByteArray := prog_9_method_21_code
def yX7_isOrder : MethodName := ⟨RX7, "isOrder", "(II)Z"⟩
abbrev cX7_sumOf : ByteArray := prog_9_method_22_code
def yX7_sumOf : MethodName := ⟨RX7, "sumOf", "(III)I"⟩
abbrev cX7_wordsOver : ByteArray := prog_9_method_23_code
def yX7_wordsOver : MethodName := ⟨RX7, "wordsOver", "(III)I"⟩
abbrev cX7_isWordOver : ByteArray := prog_9_method_24_code
def yX7_isWordOver : MethodName := ⟨RX7, "isWordOver", "(IIII)Z"⟩
abbrev cX7_findTale : ByteArray := prog_9_method_25_code
def yX7_findTale : MethodName := ⟨RX7, "findTale", "(LHayWriting$Notes;I)Z"⟩
abbrev cX7_isTale : ByteArray := prog_9_method_26_code
def yX7_isTale : MethodName := ⟨RX7, "isTale", "(LHayWriting$Notes;II)Z"⟩
abbrev cX7_isSo : ByteArray := prog_9_method_27_code
def yX7_isSo : MethodName := ⟨RX7, "isSo", "(III)Z"⟩
abbrev cX7_stacksAfter : ByteArray := prog_9_method_28_code
def yX7_stacksAfter : MethodName := ⟨RX7, "stacksAfter", "(III)I"⟩
def RX8 : String := "HayWriting$Tokens"
def TX8 : u_T := fun k => match k with
  | 0 => ("HayWriting$Tokens", "kind", "[I", true)
  | 1 => ("HayWriting$Tokens", "value", "[I", true)
  | 2 => ("HayWriting$Tokens", "place", "[I", true)
  | 3 => ("HayWriting$Tokens", "bytes", "[I", true)
  | 4 => ("HayWriting$Tokens", "end", "I", false)
  | _ => ("HayWriting$Tokens", "at", "I", false)
def tyX8 : Nat → FieldType := fun k => match k with
  | 0 => .array .int
  | 1 => .array .int
  | 2 => .array .int
  | 3 => .array .int
  | 4 => .int
  | _ => .int
abbrev wsX80 : List Cond := u_ws RX8 TX8 6
theorem nmX8 : ∀ a, a < 6 → ∀ b, b < 6 → a ≠ b → (TX8 a).2.1 ≠ (TX8 b).2.1 := by decide +kernel
theorem tyX8_ok : ∀ k, k < 6 → parseFieldDescriptor (TX8 k).2.2.1 = some (tyX8 k) := by decide +kernel
abbrev cX8_init : ByteArray := prog_10_method_1_code
def yX8_init : MethodName := ⟨RX8, "<init>", "([I)V"⟩
abbrev cX8_split : ByteArray := prog_10_method_2_code
def yX8_split : MethodName := ⟨RX8, "split", "(I)V"⟩
abbrev cX8_skipBlanks : ByteArray := prog_10_method_3_code
def yX8_skipBlanks : MethodName := ⟨RX8, "skipBlanks", "()V"⟩
abbrev cX8_takeToken : ByteArray := prog_10_method_4_code
def yX8_takeToken : MethodName := ⟨RX8, "takeToken", "(I)V"⟩
abbrev cX8_takeNumber : ByteArray := prog_10_method_5_code
def yX8_takeNumber : MethodName := ⟨RX8, "takeNumber", "(I)V"⟩
abbrev cX8_takeWord : ByteArray := prog_10_method_6_code
def yX8_takeWord : MethodName := ⟨RX8, "takeWord", "(I)V"⟩
abbrev cX8_kindOfWord : ByteArray := prog_10_method_7_code
def yX8_kindOfWord : MethodName := ⟨RX8, "kindOfWord", "(I)I"⟩
abbrev cX8_isLanguageWord : ByteArray := prog_10_method_8_code
def yX8_isLanguageWord : MethodName := ⟨RX8, "isLanguageWord", "(II)Z"⟩
abbrev cX8_signAt : ByteArray := prog_10_method_9_code
def yX8_signAt : MethodName := ⟨RX8, "signAt", "()I"⟩
abbrev cX8_lessAt : ByteArray := prog_10_method_10_code
def yX8_lessAt : MethodName := ⟨RX8, "lessAt", "(I)I"⟩
abbrev cX8_moreAt : ByteArray := prog_10_method_11_code
def yX8_moreAt : MethodName := ⟨RX8, "moreAt", "(I)I"⟩
abbrev cX8_isDigit : ByteArray := prog_10_method_12_code
def yX8_isDigit : MethodName := ⟨RX8, "isDigit", "(I)Z"⟩
abbrev cX8_isLetter : ByteArray := prog_10_method_13_code
def yX8_isLetter : MethodName := ⟨RX8, "isLetter", "(I)Z"⟩
def RX9 : String := "HayWriting$Told"
def TX9 : u_T := fun k => match k with
  | 0 => ("HayWriting$Told", "wide", "I", false)
  | 1 => ("HayWriting$Told", "high", "I", false)
  | 2 => ("HayWriting$Told", "owners", "I", false)
  | 3 => ("HayWriting$Told", "strips", "I", false)
  | 4 => ("HayWriting$Told", "lines", "I", false)
  | 5 => ("HayWriting$Told", "purse", "I", false)
  | 6 => ("HayWriting$Told", "seed", "I", false)
  | 7 => ("HayWriting$Told", "rain", "I", false)
  | 8 => ("HayWriting$Told", "toldOnce", "J", false)
  | 9 => ("HayWriting$Told", "ownerName", "[I", true)
  | 10 => ("HayWriting$Told", "price", "[I", true)
  | 11 => ("HayWriting$Told", "cut", "[I", true)
  | 12 => ("HayWriting$Told", "ownerOf", "[I", true)
  | 13 => ("HayWriting$Told", "cutOn", "[I", true)
  | 14 => ("HayWriting$Told", "fee", "[I", true)
  | 15 => ("HayWriting$Told", "script", "LHayWriting$Script;", true)
  | 16 => ("HayWriting$Told", "hills", "LHayWriting$Hills;", true)
  | 17 => ("HayWriting$Told", "washing", "LHayWriting$Washing;", true)
  | _ => ("HayWriting$Told", "law", "LHayWriting$Law;", true)
def tyX9 : Nat → FieldType := fun k => match k with
  | 0 => .int
  | 1 => .int
  | 2 => .int
  | 3 => .int
  | 4 => .int
  | 5 => .int
  | 6 => .int
  | 7 => .int
  | 8 => .long
  | 9 => .array .int
  | 10 => .array .int
  | 11 => .array .int
  | 12 => .array .int
  | 13 => .array .int
  | 14 => .array .int
  | 15 => .object "HayWriting$Script"
  | 16 => .object "HayWriting$Hills"
  | 17 => .object "HayWriting$Washing"
  | _ => .object "HayWriting$Law"
abbrev wsX90 : List Cond := u_ws RX9 TX9 19
theorem nmX9 : ∀ a, a < 19 → ∀ b, b < 19 → a ≠ b → (TX9 a).2.1 ≠ (TX9 b).2.1 := by decide +kernel
theorem tyX9_ok : ∀ k, k < 19 → parseFieldDescriptor (TX9 k).2.2.1 = some (tyX9 k) := by decide +kernel
abbrev cX9_init : ByteArray := prog_11_method_1_code
def yX9_init : MethodName := ⟨RX9, "<init>", "()V"⟩
abbrev cX9_clear : ByteArray := prog_11_method_2_code
def yX9_clear : MethodName := ⟨RX9, "clear", "()V"⟩
abbrev cX9_fields : ByteArray := prog_11_method_3_code
def yX9_fields : MethodName := ⟨RX9, "fields", "()I"⟩
abbrev cX9_hasField : ByteArray := prog_11_method_4_code
def yX9_hasField : MethodName := ⟨RX9, "hasField", "(I)Z"⟩
abbrev cX9_hasOwner : ByteArray := prog_11_method_5_code
def yX9_hasOwner : MethodName := ⟨RX9, "hasOwner", "(I)Z"⟩
abbrev cX9_daysLeft : ByteArray := prog_11_method_6_code
def yX9_daysLeft : MethodName := ⟨RX9, "daysLeft", "(II)I"⟩
abbrev cX9_addOwner : ByteArray := prog_11_method_7_code
def yX9_addOwner : MethodName := ⟨RX9, "addOwner", "(III)V"⟩
abbrev cX9_giveField : ByteArray := prog_11_method_8_code
def yX9_giveField : MethodName := ⟨RX9, "giveField", "(III)V"⟩
abbrev cX9_fits : ByteArray := prog_11_method_9_code
def yX9_fits : MethodName := ⟨RX9, "fits", "(III)Z"⟩
abbrev cX9_stepOf : ByteArray := prog_11_method_10_code
def yX9_stepOf : MethodName := ⟨RX9, "stepOf", "(I)I"⟩
def RX10 : String := "HayWriting$Washing"
def TX10 : u_T := fun k => match k with
  | 0 => ("HayWriting$Washing", "colours", "I", false)
  | 1 => ("HayWriting$Washing", "signs", "I", false)
  | 2 => ("HayWriting$Washing", "colourName", "[I", true)
  | 3 => ("HayWriting$Washing", "pieceMany", "[I", true)
  | 4 => ("HayWriting$Washing", "signName", "[I", true)
  | 5 => ("HayWriting$Washing", "rowLength", "[I", true)
  | _ => ("HayWriting$Washing", "row", "[I", true)
def tyX10 : Nat → FieldType := fun k => match k with
  | 0 => .int
  | 1 => .int
  | 2 => .array .int
  | 3 => .array .int
  | 4 => .array .int
  | 5 => .array .int
  | _ => .array .int
abbrev wsX100 : List Cond := u_ws RX10 TX10 7
theorem nmX10 : ∀ a, a < 7 → ∀ b, b < 7 → a ≠ b → (TX10 a).2.1 ≠ (TX10 b).2.1 := by decide +kernel
theorem tyX10_ok : ∀ k, k < 7 → parseFieldDescriptor (TX10 k).2.2.1 = some (tyX10 k) := by decide +kernel
abbrev cX10_init : ByteArray := prog_12_method_1_code
def yX10_init : MethodName := ⟨RX10, "<init>", "()V"⟩
abbrev cX10_clear : ByteArray := prog_12_method_2_code
def yX10_clear : MethodName := ⟨RX10, "clear", "()V"⟩
abbrev cX10_hasColour : ByteArray := prog_12_method_3_code
def yX10_hasColour : MethodName := ⟨RX10, "hasColour", "(I)Z"⟩
abbrev cX10_hasSign : ByteArray := prog_12_method_4_code
def yX10_hasSign : MethodName := ⟨RX10, "hasSign", "(I)Z"⟩
abbrev cX10_addColour : ByteArray := prog_12_method_5_code
def yX10_addColour : MethodName := ⟨RX10, "addColour", "(II)V"⟩
abbrev cX10_addSign : ByteArray := prog_12_method_6_code
def yX10_addSign : MethodName := ⟨RX10, "addSign", "(III)V"⟩
abbrev cX10_needed : ByteArray := prog_12_method_7_code
def yX10_needed : MethodName := ⟨RX10, "needed", "(II)I"⟩
abbrev cX10_leftOf : ByteArray := prog_12_method_8_code
def yX10_leftOf : MethodName := ⟨RX10, "leftOf", "(II)I"⟩
abbrev cX10_hasPieces : ByteArray := prog_12_method_9_code
def yX10_hasPieces : MethodName := ⟨RX10, "hasPieces", "(II)Z"⟩
abbrev cX10_missing : ByteArray := prog_12_method_10_code
def yX10_missing : MethodName := ⟨RX10, "missing", "(I)I"⟩
abbrev cX10_meantBy : ByteArray := prog_12_method_11_code
def yX10_meantBy : MethodName := ⟨RX10, "meantBy", "(II)I"⟩
abbrev cX10_beginning : ByteArray := prog_12_method_12_code
def yX10_beginning : MethodName := ⟨RX10, "beginning", "(II)I"⟩
abbrev cX10_fewestToTell : ByteArray := prog_12_method_13_code
def yX10_fewestToTell : MethodName := ⟨RX10, "fewestToTell", "()I"⟩
abbrev cX10_areTold : ByteArray := prog_12_method_14_code
def yX10_areTold : MethodName := ⟨RX10, "areTold", "(I)Z"⟩
def RX11 : String := "HayWriting"
def TX11 : u_T := fun k => match k with
  | 0 => ("HayWriting", "tape", "[I", true)
  | 1 => ("HayWriting", "fed", "I", false)
  | 2 => ("HayWriting", "faultKind", "I", false)
  | 3 => ("HayWriting", "faultPlace", "I", false)
  | 4 => ("HayWriting", "tokens", "LHayWriting$Tokens;", true)
  | 5 => ("HayWriting", "told", "LHayWriting$Told;", true)
  | 6 => ("HayWriting", "draft", "LHayWriting$Told;", true)
  | 7 => ("HayWriting", "reader", "LHayWriting$Reader;", true)
  | 8 => ("HayWriting", "now", "LHayWriting$Scene;", true)
  | 9 => ("HayWriting", "image", "LHayWriting$Scene;", true)
  | 10 => ("HayWriting", "kept", "Z", false)
  | 11 => ("HayWriting", "past", "LHayWriting$Past;", true)
  | 12 => ("HayWriting", "notes", "LHayWriting$Notes;", true)
  | _ => ("HayWriting", "search", "LHayWriting$Search;", true)
def tyX11 : Nat → FieldType := fun k => match k with
  | 0 => .array .int
  | 1 => .int
  | 2 => .int
  | 3 => .int
  | 4 => .object "HayWriting$Tokens"
  | 5 => .object "HayWriting$Told"
  | 6 => .object "HayWriting$Told"
  | 7 => .object "HayWriting$Reader"
  | 8 => .object "HayWriting$Scene"
  | 9 => .object "HayWriting$Scene"
  | 10 => .boolean
  | 11 => .object "HayWriting$Past"
  | 12 => .object "HayWriting$Notes"
  | _ => .object "HayWriting$Search"
abbrev wsX110 : List Cond := u_ws RX11 TX11 14
theorem nmX11 : ∀ a, a < 14 → ∀ b, b < 14 → a ≠ b → (TX11 a).2.1 ≠ (TX11 b).2.1 := by decide +kernel
theorem tyX11_ok : ∀ k, k < 14 → parseFieldDescriptor (TX11 k).2.2.1 = some (tyX11 k) := by decide +kernel
abbrev cX11_init : ByteArray := prog_1_method_1_code
def yX11_init : MethodName := ⟨RX11, "<init>", "()V"⟩
abbrev cX11_feed : ByteArray := prog_1_method_2_code
def yX11_feed : MethodName := ⟨RX11, "feed", "(IIIII)I"⟩
abbrev cX11_takeBytes : ByteArray := prog_1_method_3_code
def yX11_takeBytes : MethodName := ⟨RX11, "takeBytes", "(I)V"⟩
abbrev cX11_text : ByteArray := prog_1_method_4_code
def yX11_text : MethodName := ⟨RX11, "text", "(I)I"⟩
abbrev cX11_fault : ByteArray := prog_1_method_5_code
def yX11_fault : MethodName := ⟨RX11, "fault", "(I)I"⟩
abbrev cX11_named : ByteArray := prog_1_method_6_code
def yX11_named : MethodName := ⟨RX11, "named", "(II)I"⟩
abbrev cX11_look : ByteArray := prog_1_method_7_code
def yX11_look : MethodName := ⟨RX11, "look", "(II)I"⟩
abbrev cX11_shape : ByteArray := prog_1_method_8_code
def yX11_shape : MethodName := ⟨RX11, "shape", "(I)I"⟩
abbrev cX11_seen : ByteArray := prog_1_method_9_code
def yX11_seen : MethodName := ⟨RX11, "seen", "(II)I"⟩
abbrev cX11_read : ByteArray := prog_1_method_10_code
def yX11_read : MethodName := ⟨RX11, "read", "(II)I"⟩
abbrev cX11_taken : ByteArray := prog_1_method_11_code
def yX11_taken : MethodName := ⟨RX11, "taken", "(II)I"⟩
abbrev cX11_law : ByteArray := prog_1_method_12_code
def yX11_law : MethodName := ⟨RX11, "law", "(I)J"⟩
abbrev cX11_cost : ByteArray := prog_1_method_13_code
def yX11_cost : MethodName := ⟨RX11, "cost", "(III)I"⟩
abbrev cX11_set : ByteArray := prog_1_method_14_code
def yX11_set : MethodName := ⟨RX11, "set", "(III)I"⟩
abbrev cX11_stack : ByteArray := prog_1_method_15_code
def yX11_stack : MethodName := ⟨RX11, "stack", "(II)Z"⟩
abbrev cX11_days : ByteArray := prog_1_method_16_code
def yX11_days : MethodName := ⟨RX11, "days", "(I)I"⟩
abbrev cX11_stands : ByteArray := prog_1_method_17_code
def yX11_stands : MethodName := ⟨RX11, "stands", "(II)I"⟩
abbrev cX11_cheapest : ByteArray := prog_1_method_18_code
def yX11_cheapest : MethodName := ⟨RX11, "cheapest", "(II)I"⟩
abbrev cX11_crossed : ByteArray := prog_1_method_19_code
def yX11_crossed : MethodName := ⟨RX11, "crossed", "(III)I"⟩
abbrev cX11_life : ByteArray := prog_1_method_20_code
def yX11_life : MethodName := ⟨RX11, "life", "(IIII)I"⟩
abbrev cX11_pays : ByteArray := prog_1_method_21_code
def yX11_pays : MethodName := ⟨RX11, "pays", "(II)I"⟩
abbrev cX11_owed : ByteArray := prog_1_method_22_code
def yX11_owed : MethodName := ⟨RX11, "owed", "(II)I"⟩
abbrev cX11_shared : ByteArray := prog_1_method_23_code
def yX11_shared : MethodName := ⟨RX11, "shared", "(III)I"⟩
abbrev cX11_summer : ByteArray := prog_1_method_24_code
def yX11_summer : MethodName := ⟨RX11, "summer", "(IIII)I"⟩
abbrev cX11_hang : ByteArray := prog_1_method_25_code
def yX11_hang : MethodName := ⟨RX11, "hang", "(I)I"⟩
abbrev cX11_lower : ByteArray := prog_1_method_26_code
def yX11_lower : MethodName := ⟨RX11, "lower", "(I)I"⟩
abbrev cX11_hangs : ByteArray := prog_1_method_27_code
def yX11_hangs : MethodName := ⟨RX11, "hangs", "(I)Z"⟩
abbrev cX11_pieces : ByteArray := prog_1_method_28_code
def yX11_pieces : MethodName := ⟨RX11, "pieces", "(I)I"⟩
abbrev cX11_wants : ByteArray := prog_1_method_29_code
def yX11_wants : MethodName := ⟨RX11, "wants", "(I)I"⟩
abbrev cX11_meant : ByteArray := prog_1_method_30_code
def yX11_meant : MethodName := ⟨RX11, "meant", "(II)I"⟩
abbrev cX11_apart : ByteArray := prog_1_method_31_code
def yX11_apart : MethodName := ⟨RX11, "apart", "()I"⟩
abbrev cX11_news : ByteArray := prog_1_method_32_code
def yX11_news : MethodName := ⟨RX11, "news", "(II)I"⟩
abbrev cX11_maybe : ByteArray := prog_1_method_33_code
def yX11_maybe : MethodName := ⟨RX11, "maybe", "(II)I"⟩
abbrev cX11_maystand : ByteArray := prog_1_method_34_code
def yX11_maystand : MethodName := ⟨RX11, "maystand", "(III)I"⟩
abbrev cX11_likeliest : ByteArray := prog_1_method_35_code
def yX11_likeliest : MethodName := ⟨RX11, "likeliest", "(III)I"⟩
abbrev cX11_note : ByteArray := prog_1_method_36_code
def yX11_note : MethodName := ⟨RX11, "note", "(III)I"⟩
abbrev cX11_strike : ByteArray := prog_1_method_37_code
def yX11_strike : MethodName := ⟨RX11, "strike", "(I)I"⟩
abbrev cX11_known : ByteArray := prog_1_method_38_code
def yX11_known : MethodName := ⟨RX11, "known", "(I)Z"⟩
abbrev cX11_tales : ByteArray := prog_1_method_39_code
def yX11_tales : MethodName := ⟨RX11, "tales", "()I"⟩
abbrev cX11_tale : ByteArray := prog_1_method_40_code
def yX11_tale : MethodName := ⟨RX11, "tale", "(II)I"⟩
abbrev cX11_tried : ByteArray := prog_1_method_41_code
def yX11_tried : MethodName := ⟨RX11, "tried", "(III)I"⟩
abbrev cX11_undo : ByteArray := prog_1_method_42_code
def yX11_undo : MethodName := ⟨RX11, "undo", "()I"⟩
abbrev cX11_keep : ByteArray := prog_1_method_43_code
def yX11_keep : MethodName := ⟨RX11, "keep", "()I"⟩
abbrev cX11_back : ByteArray := prog_1_method_44_code
def yX11_back : MethodName := ⟨RX11, "back", "()I"⟩
abbrev cX11_count : ByteArray := prog_1_method_45_code
def yX11_count : MethodName := ⟨RX11, "count", "(I)I"⟩
abbrev cX11_isPlaced : ByteArray := prog_1_method_46_code
def yX11_isPlaced : MethodName := ⟨RX11, "isPlaced", "(III)Z"⟩
abbrev cX11_areUnlike : ByteArray := prog_1_method_47_code
def yX11_areUnlike : MethodName := ⟨RX11, "areUnlike", "(II)Z"⟩
abbrev cX11_isWay : ByteArray := prog_1_method_48_code
def yX11_isWay : MethodName := ⟨RX11, "isWay", "(I)Z"⟩
abbrev cX11_indexOf : ByteArray := prog_1_method_49_code
def yX11_indexOf : MethodName := ⟨RX11, "indexOf", "([III)I"⟩
abbrev cX11_letterAt : ByteArray := prog_1_method_50_code
def yX11_letterAt : MethodName := ⟨RX11, "letterAt", "(II)I"⟩
def RX12 : String := "HayWritingModel"
def TX12 : u_T := fun k => match k with
  | 0 => ("HayWritingModel", "tape", "[I", true)
  | 1 => ("HayWritingModel", "tapeSize", "I", false)
  | 2 => ("HayWritingModel", "thrown", "I", false)
  | 3 => ("HayWritingModel", "words", "[I", true)
  | 4 => ("HayWritingModel", "fault", "I", false)
  | 5 => ("HayWritingModel", "faultPlace", "I", false)
  | 6 => ("HayWritingModel", "stop", "I", false)
  | 7 => ("HayWritingModel", "next", "I", false)
  | 8 => ("HayWritingModel", "kind", "I", false)
  | 9 => ("HayWritingModel", "which", "I", false)
  | 10 => ("HayWritingModel", "at", "I", false)
  | 11 => ("HayWritingModel", "got", "I", false)
  | 12 => ("HayWritingModel", "wide", "I", false)
  | 13 => ("HayWritingModel", "high", "I", false)
  | 14 => ("HayWritingModel", "owners", "I", false)
  | 15 => ("HayWritingModel", "glyphs", "I", false)
  | 16 => ("HayWritingModel", "names2", "I", false)
  | 17 => ("HayWritingModel", "hills", "I", false)
  | 18 => ("HayWritingModel", "colours", "I", false)
  | 19 => ("HayWritingModel", "signs", "I", false)
  | 20 => ("HayWritingModel", "links", "I", false)
  | 21 => ("HayWritingModel", "knots", "I", false)
  | 22 => ("HayWritingModel", "lawTold", "Z", false)
  | 23 => ("HayWritingModel", "wideRead", "I", false)
  | 24 => ("HayWritingModel", "highRead", "I", false)
  | 25 => ("HayWritingModel", "ownersRead", "I", false)
  | 26 => ("HayWritingModel", "stripsRead", "I", false)
  | 27 => ("HayWritingModel", "glyphsRead", "I", false)
  | 28 => ("HayWritingModel", "names2Read", "I", false)
  | 29 => ("HayWritingModel", "hillsRead", "I", false)
  | 30 => ("HayWritingModel", "coloursRead", "I", false)
  | 31 => ("HayWritingModel", "signsRead", "I", false)
  | 32 => ("HayWritingModel", "linksRead", "I", false)
  | 33 => ("HayWritingModel", "knotsRead", "I", false)
  | 34 => ("HayWritingModel", "plainTold", "Z", false)
  | 35 => ("HayWritingModel", "lawSaid", "Z", false)
  | 36 => ("HayWritingModel", "once", "[I", true)
  | 37 => ("HayWritingModel", "onceTold", "[Z", true)
  | 38 => ("HayWritingModel", "ownerName", "[I", true)
  | 39 => ("HayWritingModel", "price", "[I", true)
  | 40 => ("HayWritingModel", "cutOn", "[I", true)
  | 41 => ("HayWritingModel", "ownerOf", "[I", true)
  | 42 => ("HayWritingModel", "glyphLetter", "[I", true)
  | 43 => ("HayWritingModel", "glyphShape", "[I", true)
  | 44 => ("HayWritingModel", "wordName", "[I", true)
  | 45 => ("HayWritingModel", "wordWorth", "[I", true)
  | 46 => ("HayWritingModel", "hillName", "[I", true)
  | 47 => ("HayWritingModel", "hillSight", "[I", true)
  | 48 => ("HayWritingModel", "colourName", "[I", true)
  | 49 => ("HayWritingModel", "colourMany", "[I", true)
  | 50 => ("HayWritingModel", "signName", "[I", true)
  | 51 => ("HayWritingModel", "signLong", "[I", true)
  | 52 => ("HayWritingModel", "signRow", "[I", true)
  | 53 => ("HayWritingModel", "link", "[I", true)
  | 54 => ("HayWritingModel", "knot", "[I", true)
  | 55 => ("HayWritingModel", "part", "[I", true)
  | 56 => ("HayWritingModel", "other", "[I", true)
  | 57 => ("HayWritingModel", "wait", "[I", true)
  | 58 => ("HayWritingModel", "held", "[I", true)
  | 59 => ("HayWritingModel", "waits", "I", false)
  | 60 => ("HayWritingModel", "helds", "I", false)
  | 61 => ("HayWritingModel", "brackets", "I", false)
  | 62 => ("HayWritingModel", "counted", "I", false)
  | 63 => ("HayWritingModel", "wants", "Z", false)
  | 64 => ("HayWritingModel", "mayNot", "Z", false)
  | 65 => ("HayWritingModel", "names", "[J", true)
  | 66 => ("HayWritingModel", "value", "[J", true)
  | 67 => ("HayWritingModel", "isError", "Z", false)
  | 68 => ("HayWritingModel", "shape", "[I", true)
  | 69 => ("HayWritingModel", "day", "[I", true)
  | 70 => ("HayWritingModel", "purse", "I", false)
  | 71 => ("HayWritingModel", "hung", "I", false)
  | 72 => ("HayWritingModel", "drawn", "J", false)
  | 73 => ("HayWritingModel", "readOn", "[I", true)
  | 74 => ("HayWritingModel", "way1", "I", false)
  | 75 => ("HayWritingModel", "free", "I", false)
  | 76 => ("HayWritingModel", "barred", "I", false)
  | 77 => ("HayWritingModel", "bestPlace", "I", false)
  | 78 => ("HayWritingModel", "bestCost", "I", false)
  | 79 => ("HayWritingModel", "pairCost", "I", false)
  | 80 => ("HayWritingModel", "pairOne", "I", false)
  | 81 => ("HayWritingModel", "pairTwo", "I", false)
  | 82 => ("HayWritingModel", "order", "[I", true)
  | 83 => ("HayWritingModel", "orderBest", "[I", true)
  | 84 => ("HayWritingModel", "setAt", "[I", true)
  | 85 => ("HayWritingModel", "summerMany", "I", false)
  | 86 => ("HayWritingModel", "summerBest", "I", false)
  | 87 => ("HayWritingModel", "far", "[I", true)
  | 88 => ("HayWritingModel", "notes", "I", false)
  | 89 => ("HayWritingModel", "knownTold", "I", false)
  | 90 => ("HayWritingModel", "note", "[I", true)
  | 91 => ("HayWritingModel", "counts", "[Z", true)
  | 92 => ("HayWritingModel", "found", "I", false)
  | 93 => ("HayWritingModel", "asked", "I", false)
  | 94 => ("HayWritingModel", "undos", "I", false)
  | 95 => ("HayWritingModel", "undo", "[I", true)
  | 96 => ("HayWritingModel", "hasImage", "Z", false)
  | 97 => ("HayWritingModel", "image", "[I", true)
  | 98 => ("HayWritingModel", "imageDay", "I", false)
  | 99 => ("HayWritingModel", "imageDrawn", "J", false)
  | _ => ("HayWritingModel", "imageRead", "[I", true)
def tyX12 : Nat → FieldType := fun k => match k with
  | 0 => .array .int
  | 1 => .int
  | 2 => .int
  | 3 => .array .int
  | 4 => .int
  | 5 => .int
  | 6 => .int
  | 7 => .int
  | 8 => .int
  | 9 => .int
  | 10 => .int
  | 11 => .int
  | 12 => .int
  | 13 => .int
  | 14 => .int
  | 15 => .int
  | 16 => .int
  | 17 => .int
  | 18 => .int
  | 19 => .int
  | 20 => .int
  | 21 => .int
  | 22 => .boolean
  | 23 => .int
  | 24 => .int
  | 25 => .int
  | 26 => .int
  | 27 => .int
  | 28 => .int
  | 29 => .int
  | 30 => .int
  | 31 => .int
  | 32 => .int
  | 33 => .int
  | 34 => .boolean
  | 35 => .boolean
  | 36 => .array .int
  | 37 => .array .boolean
  | 38 => .array .int
  | 39 => .array .int
  | 40 => .array .int
  | 41 => .array .int
  | 42 => .array .int
  | 43 => .array .int
  | 44 => .array .int
  | 45 => .array .int
  | 46 => .array .int
  | 47 => .array .int
  | 48 => .array .int
  | 49 => .array .int
  | 50 => .array .int
  | 51 => .array .int
  | 52 => .array .int
  | 53 => .array .int
  | 54 => .array .int
  | 55 => .array .int
  | 56 => .array .int
  | 57 => .array .int
  | 58 => .array .int
  | 59 => .int
  | 60 => .int
  | 61 => .int
  | 62 => .int
  | 63 => .boolean
  | 64 => .boolean
  | 65 => .array .long
  | 66 => .array .long
  | 67 => .boolean
  | 68 => .array .int
  | 69 => .array .int
  | 70 => .int
  | 71 => .int
  | 72 => .long
  | 73 => .array .int
  | 74 => .int
  | 75 => .int
  | 76 => .int
  | 77 => .int
  | 78 => .int
  | 79 => .int
  | 80 => .int
  | 81 => .int
  | 82 => .array .int
  | 83 => .array .int
  | 84 => .array .int
  | 85 => .int
  | 86 => .int
  | 87 => .array .int
  | 88 => .int
  | 89 => .int
  | 90 => .array .int
  | 91 => .array .boolean
  | 92 => .int
  | 93 => .int
  | 94 => .int
  | 95 => .array .int
  | 96 => .boolean
  | 97 => .array .int
  | 98 => .int
  | 99 => .long
  | _ => .array .int
abbrev wsX120 : List Cond := u_ws RX12 TX12 101
theorem nmX12 : ∀ a, a < 101 → ∀ b, b < 101 → a ≠ b → (TX12 a).2.1 ≠ (TX12 b).2.1 := by decide +kernel
theorem tyX12_ok : ∀ k, k < 101 → parseFieldDescriptor (TX12 k).2.2.1 = some (tyX12 k) := by decide +kernel
abbrev cX12_init : ByteArray := prog_14_method_1_code
def yX12_init : MethodName := ⟨RX12, "<init>", "()V"⟩
abbrev cX12_thrown : ByteArray := prog_14_method_2_code
def yX12_thrown : MethodName := ⟨RX12, "thrown", "()I"⟩
abbrev cX12_feed : ByteArray := prog_14_method_3_code
def yX12_feed : MethodName := ⟨RX12, "feed", "(IIIII)I"⟩
abbrev cX12_isIn : ByteArray := prog_14_method_4_code
def yX12_isIn : MethodName := ⟨RX12, "isIn", "(III)Z"⟩
abbrev cX12_isOf : ByteArray := prog_14_method_5_code
def yX12_isOf : MethodName := ⟨RX12, "isOf", "(II)Z"⟩
abbrev cX12_manyOf : ByteArray := prog_14_method_6_code
def yX12_manyOf : MethodName := ⟨RX12, "manyOf", "(I)I"⟩
abbrev cX12_wrong : ByteArray := prog_14_method_7_code
def yX12_wrong : MethodName := ⟨RX12, "wrong", "(I)Z"⟩
abbrev cX12_wordAt : ByteArray := prog_14_method_8_code
def yX12_wordAt : MethodName := ⟨RX12, "wordAt", "(II)I"⟩
abbrev cX12_isSmall : ByteArray := prog_14_method_9_code
def yX12_isSmall : MethodName := ⟨RX12, "isSmall", "(I)Z"⟩
abbrev cX12_isDigit : ByteArray := prog_14_method_10_code
def yX12_isDigit : MethodName := ⟨RX12, "isDigit", "(I)Z"⟩
abbrev cX12_token : ByteArray := prog_14_method_11_code
def yX12_token : MethodName := ⟨RX12, "token", "()V"⟩
abbrev cX12_signToken : ByteArray := prog_14_method_12_code
def yX12_signToken : MethodName := ⟨RX12, "signToken", "()V"⟩
abbrev cX12_packed : ByteArray := prog_14_method_13_code
def yX12_packed : MethodName := ⟨RX12, "packed", "(II)I"⟩
abbrev cX12_isKey : ByteArray := prog_14_method_14_code
def yX12_isKey : MethodName := ⟨RX12, "isKey", "(I)Z"⟩
abbrev cX12_isSign : ByteArray := prog_14_method_15_code
def yX12_isSign : MethodName := ⟨RX12, "isSign", "(I)Z"⟩
abbrev cX12_number : ByteArray := prog_14_method_16_code
def yX12_number : MethodName := ⟨RX12, "number", "(II)Z"⟩
abbrev cX12_plain : ByteArray := prog_14_method_18_code
def yX12_plain : MethodName := ⟨RX12, "plain", "()V"⟩
abbrev cX12_copies : ByteArray := prog_14_method_19_code
def yX12_copies : MethodName := ⟨RX12, "copies", "([II)V"⟩
abbrev cX12_keepText : ByteArray := prog_14_method_20_code
def yX12_keepText : MethodName := ⟨RX12, "keepText", "()V"⟩
abbrev cX12_find : ByteArray := prog_14_method_21_code
def yX12_find : MethodName := ⟨RX12, "find", "([IIII)I"⟩
abbrev cX12_newName : ByteArray := prog_14_method_22_code
def yX12_newName : MethodName := ⟨RX12, "newName", "([III)Z"⟩
abbrev cX12_oldName : ByteArray := prog_14_method_23_code
def yX12_oldName : MethodName := ⟨RX12, "oldName", "([III)Z"⟩
abbrev cX12_letterOf : ByteArray := prog_14_method_24_code
def yX12_letterOf : MethodName := ⟨RX12, "letterOf", "(II)I"⟩
abbrev cX12_longOf : ByteArray := prog_14_method_25_code
def yX12_longOf : MethodName := ⟨RX12, "longOf", "(I)I"⟩
abbrev cX12_plainLine : ByteArray := prog_14_method_26_code
def yX12_plainLine : MethodName := ⟨RX12, "plainLine", "()Z"⟩
abbrev cX12_ownerLine : ByteArray := prog_14_method_27_code
def yX12_ownerLine : MethodName := ⟨RX12, "ownerLine", "()Z"⟩
abbrev cX12_stripLine : ByteArray := prog_14_method_28_code
def yX12_stripLine : MethodName := ⟨RX12, "stripLine", "()Z"⟩
abbrev cX12_glyphLine : ByteArray := prog_14_method_29_code
def yX12_glyphLine : MethodName := ⟨RX12, "glyphLine", "()Z"⟩
abbrev cX12_signLine : ByteArray := prog_14_method_30_code
def yX12_signLine : MethodName := ⟨RX12, "signLine", "()Z"⟩
abbrev cX12_linkLine : ByteArray := prog_14_method_31_code
def yX12_linkLine : MethodName := ⟨RX12, "linkLine", "()Z"⟩
abbrev cX12_onceLine : ByteArray := prog_14_method_32_code
def yX12_onceLine : MethodName := ⟨RX12, "onceLine", "(I)Z"⟩
abbrev cX12_lineRead : ByteArray := prog_14_method_33_code
def yX12_lineRead : MethodName := ⟨RX12, "lineRead", "()Z"⟩
abbrev cX12_text : ByteArray := prog_14_method_34_code
def yX12_text : MethodName := ⟨RX12, "text", "(I)I"⟩
abbrev cX12_fault : ByteArray := prog_14_method_35_code
def yX12_fault : MethodName := ⟨RX12, "fault", "(I)I"⟩
abbrev cX12_named : ByteArray := prog_14_method_36_code
def yX12_named : MethodName := ⟨RX12, "named", "(II)I"⟩
abbrev cX12_rank : ByteArray := prog_14_method_37_code
def yX12_rank : MethodName := ⟨RX12, "rank", "(I)I"⟩
abbrev cX12_grown : ByteArray := prog_14_method_38_code
def yX12_grown : MethodName := ⟨RX12, "grown", "(III)V"⟩
abbrev cX12_dropHeld : ByteArray := prog_14_method_39_code
def yX12_dropHeld : MethodName := ⟨RX12, "dropHeld", "()I"⟩
abbrev cX12_bind : ByteArray := prog_14_method_40_code
def yX12_bind : MethodName := ⟨RX12, "bind", "(I)V"⟩
abbrev cX12_isCounted : ByteArray := prog_14_method_41_code
def yX12_isCounted : MethodName := ⟨RX12, "isCounted", "()Z"⟩
abbrev cX12_waitsFor : ByteArray := prog_14_method_42_code
def yX12_waitsFor : MethodName := ⟨RX12, "waitsFor", "(I)V"⟩
abbrev cX12_nameMet : ByteArray := prog_14_method_43_code
def yX12_nameMet : MethodName := ⟨RX12, "nameMet", "()I"⟩
abbrev cX12_leafRead : ByteArray := prog_14_method_44_code
def yX12_leafRead : MethodName := ⟨RX12, "leafRead", "()Z"⟩
abbrev cX12_signs : ByteArray := prog_14_method_45_code
def yX12_signs : MethodName := ⟨RX12, "signs", "()Z"⟩
abbrev cX12_sumRead : ByteArray := prog_14_method_46_code
def yX12_sumRead : MethodName := ⟨RX12, "sumRead", "()Z"⟩
abbrev cX12_bounded : ByteArray := prog_14_method_47_code
def yX12_bounded : MethodName := ⟨RX12, "bounded", "(J)J"⟩
abbrev cX12_compares : ByteArray := prog_14_method_48_code
def yX12_compares : MethodName := ⟨RX12, "compares", "(IJJ)Z"⟩
abbrev cX12_times : ByteArray := prog_14_method_49_code
def yX12_times : MethodName := ⟨RX12, "times", "(JJ)J"⟩
abbrev cX12_valueOf : ByteArray := prog_14_method_50_code
def yX12_valueOf : MethodName := ⟨RX12, "valueOf", "(I)J"⟩
abbrev cX12_begin : ByteArray := prog_14_method_51_code
def yX12_begin : MethodName := ⟨RX12, "begin", "()V"⟩
abbrev cX12_layTried : ByteArray := prog_14_method_52_code
def yX12_layTried : MethodName := ⟨RX12, "layTried", "()V"⟩
abbrev cX12_fields : ByteArray := prog_14_method_53_code
def yX12_fields : MethodName := ⟨RX12, "fields", "()I"⟩
abbrev cX12_isField : ByteArray := prog_14_method_54_code
def yX12_isField : MethodName := ⟨RX12, "isField", "(I)Z"⟩
abbrev cX12_isOwner : ByteArray := prog_14_method_55_code
def yX12_isOwner : MethodName := ⟨RX12, "isOwner", "(I)Z"⟩
abbrev cX12_isWord : ByteArray := prog_14_method_56_code
def yX12_isWord : MethodName := ⟨RX12, "isWord", "(I)Z"⟩
abbrev cX12_isHill : ByteArray := prog_14_method_57_code
def yX12_isHill : MethodName := ⟨RX12, "isHill", "(I)Z"⟩
abbrev cX12_isWay : ByteArray := prog_14_method_58_code
def yX12_isWay : MethodName := ⟨RX12, "isWay", "(I)Z"⟩
abbrev cX12_priceOf : ByteArray := prog_14_method_59_code
def yX12_priceOf : MethodName := ⟨RX12, "priceOf", "(I)I"⟩
abbrev cX12_leftOf : ByteArray := prog_14_method_60_code
def yX12_leftOf : MethodName := ⟨RX12, "leftOf", "(II)I"⟩
abbrev cX12_fails : ByteArray := prog_14_method_61_code
def yX12_fails : MethodName := ⟨RX12, "fails", "(I)I"⟩
abbrev cX12_look : ByteArray := prog_14_method_62_code
def yX12_look : MethodName := ⟨RX12, "look", "(II)I"⟩
abbrev cX12_shapeOf : ByteArray := prog_14_method_63_code
def yX12_shapeOf : MethodName := ⟨RX12, "shapeOf", "(I)I"⟩
abbrev cX12_shape : ByteArray := prog_14_method_64_code
def yX12_shape : MethodName := ⟨RX12, "shape", "(I)I"⟩
abbrev cX12_seenOf : ByteArray := prog_14_method_65_code
def yX12_seenOf : MethodName := ⟨RX12, "seenOf", "(II)I"⟩
abbrev cX12_readOf : ByteArray := prog_14_method_66_code
def yX12_readOf : MethodName := ⟨RX12, "readOf", "(II)I"⟩
abbrev cX12_seen : ByteArray := prog_14_method_67_code
def yX12_seen : MethodName := ⟨RX12, "seen", "(II)I"⟩
abbrev cX12_read : ByteArray := prog_14_method_68_code
def yX12_read : MethodName := ⟨RX12, "read", "(II)I"⟩
abbrev cX12_taken : ByteArray := prog_14_method_69_code
def yX12_taken : MethodName := ⟨RX12, "taken", "(II)I"⟩
abbrev cX12_isVowel : ByteArray := prog_14_method_70_code
def yX12_isVowel : MethodName := ⟨RX12, "isVowel", "(I)Z"⟩
abbrev cX12_lawOf : ByteArray := prog_14_method_71_code
def yX12_lawOf : MethodName := ⟨RX12, "lawOf", "(II)J"⟩
abbrev cX12_law : ByteArray := prog_14_method_72_code
def yX12_law : MethodName := ⟨RX12, "law", "(I)J"⟩
abbrev cX12_eats : ByteArray := prog_14_method_73_code
def yX12_eats : MethodName := ⟨RX12, "eats", "(I)V"⟩
abbrev cX12_number1 : ByteArray := prog_14_method_74_code
def yX12_number1 : MethodName := ⟨RX12, "number1", "(I)I"⟩
abbrev cX12_rains : ByteArray := prog_14_method_75_code
def yX12_rains : MethodName := ⟨RX12, "rains", "(I)V"⟩
abbrev cX12_aDay : ByteArray := prog_14_method_76_code
def yX12_aDay : MethodName := ⟨RX12, "aDay", "(I)V"⟩
abbrev cX12_fieldAt : ByteArray := prog_14_method_77_code
def yX12_fieldAt : MethodName := ⟨RX12, "fieldAt", "(III)I"⟩
abbrev cX12_wordLong : ByteArray := prog_14_method_78_code
def yX12_wordLong : MethodName := ⟨RX12, "wordLong", "(I)I"⟩
abbrev cX12_wordShape : ByteArray := prog_14_method_79_code
def yX12_wordShape : MethodName := ⟨RX12, "wordShape", "(II)I"⟩
abbrev cX12_lies : ByteArray := prog_14_method_80_code
def yX12_lies : MethodName := ⟨RX12, "lies", "(III)Z"⟩
abbrev cX12_canSet : ByteArray := prog_14_method_81_code
def yX12_canSet : MethodName := ⟨RX12, "canSet", "(IIII)Z"⟩
abbrev cX12_costOf : ByteArray := prog_14_method_82_code
def yX12_costOf : MethodName := ⟨RX12, "costOf", "(IIII)I"⟩
abbrev cX12_isBarred : ByteArray := prog_14_method_83_code
def yX12_isBarred : MethodName := ⟨RX12, "isBarred", "(III)Z"⟩
abbrev cX12_setsIn : ByteArray := prog_14_method_84_code
def yX12_setsIn : MethodName := ⟨RX12, "setsIn", "(IIII)V"⟩
abbrev cX12_isRead : ByteArray := prog_14_method_85_code
def yX12_isRead : MethodName := ⟨RX12, "isRead", "(IIIII)Z"⟩
abbrev cX12_arePlace : ByteArray := prog_14_method_86_code
def yX12_arePlace : MethodName := ⟨RX12, "arePlace", "(III)Z"⟩
abbrev cX12_cost : ByteArray := prog_14_method_87_code
def yX12_cost : MethodName := ⟨RX12, "cost", "(III)I"⟩
abbrev cX12_set : ByteArray := prog_14_method_88_code
def yX12_set : MethodName := ⟨RX12, "set", "(III)I"⟩
abbrev cX12_stack : ByteArray := prog_14_method_89_code
def yX12_stack : MethodName := ⟨RX12, "stack", "(II)Z"⟩
abbrev cX12_standsOf : ByteArray := prog_14_method_90_code
def yX12_standsOf : MethodName := ⟨RX12, "standsOf", "(III)I"⟩
abbrev cX12_stands : ByteArray := prog_14_method_91_code
def yX12_stands : MethodName := ⟨RX12, "stands", "(II)I"⟩
abbrev cX12_reads : ByteArray := prog_14_method_92_code
def yX12_reads : MethodName := ⟨RX12, "reads", "()V"⟩
abbrev cX12_days : ByteArray := prog_14_method_93_code
def yX12_days : MethodName := ⟨RX12, "days", "(I)I"⟩
abbrev cX12_layCheapest : ByteArray := prog_14_method_94_code
def yX12_layCheapest : MethodName := ⟨RX12, "layCheapest", "(II)V"⟩
abbrev cX12_cheapest : ByteArray := prog_14_method_95_code
def yX12_cheapest : MethodName := ⟨RX12, "cheapest", "(II)I"⟩
abbrev cX12_owed : ByteArray := prog_14_method_96_code
def yX12_owed : MethodName := ⟨RX12, "owed", "(II)I"⟩
abbrev cX12_bothOf : ByteArray := prog_14_method_97_code
def yX12_bothOf : MethodName := ⟨RX12, "bothOf", "(IIII)I"⟩
abbrev cX12_togetherOf : ByteArray := prog_14_method_98_code
def yX12_togetherOf : MethodName := ⟨RX12, "togetherOf", "(IIII)I"⟩
abbrev cX12_layPair : ByteArray := prog_14_method_99_code
def yX12_layPair : MethodName := ⟨RX12, "layPair", "(IIZ)V"⟩
abbrev cX12_crossed : ByteArray := prog_14_method_100_code
def yX12_crossed : MethodName := ⟨RX12, "crossed", "(III)I"⟩
abbrev cX12_shared : ByteArray := prog_14_method_101_code
def yX12_shared : MethodName := ⟨RX12, "shared", "(III)I"⟩
abbrev cX12_lifeOf : ByteArray := prog_14_method_102_code
def yX12_lifeOf : MethodName := ⟨RX12, "lifeOf", "(IIII)I"⟩
abbrev cX12_life : ByteArray := prog_14_method_103_code
def yX12_life : MethodName := ⟨RX12, "life", "(IIII)I"⟩
abbrev cX12_pays : ByteArray := prog_14_method_104_code
def yX12_pays : MethodName := ⟨RX12, "pays", "(II)I"⟩
abbrev cX12_summerOf : ByteArray := prog_14_method_105_code
def yX12_summerOf : MethodName := ⟨RX12, "summerOf", "(II)I"⟩
abbrev cX12_isOrder : ByteArray := prog_14_method_106_code
def yX12_isOrder : MethodName := ⟨RX12, "isOrder", "(I)Z"⟩
abbrev cX12_nextOrder : ByteArray := prog_14_method_107_code
def yX12_nextOrder : MethodName := ⟨RX12, "nextOrder", "()Z"⟩
abbrev cX12_laySummer : ByteArray := prog_14_method_108_code
def yX12_laySummer : MethodName := ⟨RX12, "laySummer", "(III)V"⟩
abbrev cX12_summer : ByteArray := prog_14_method_109_code
def yX12_summer : MethodName := ⟨RX12, "summer", "(IIII)I"⟩
abbrev cX12_isRow : ByteArray := prog_14_method_110_code
def yX12_isRow : MethodName := ⟨RX12, "isRow", "(I)Z"⟩
abbrev cX12_usedOf : ByteArray := prog_14_method_111_code
def yX12_usedOf : MethodName := ⟨RX12, "usedOf", "(II)I"⟩
abbrev cX12_hang : ByteArray := prog_14_method_112_code
def yX12_hang : MethodName := ⟨RX12, "hang", "(I)I"⟩
abbrev cX12_lower : ByteArray := prog_14_method_113_code
def yX12_lower : MethodName := ⟨RX12, "lower", "(I)I"⟩
abbrev cX12_pieces : ByteArray := prog_14_method_114_code
def yX12_pieces : MethodName := ⟨RX12, "pieces", "(I)I"⟩
abbrev cX12_wants : ByteArray := prog_14_method_115_code
def yX12_wants : MethodName := ⟨RX12, "wants", "(I)I"⟩
abbrev cX12_meantBy : ByteArray := prog_14_method_116_code
def yX12_meantBy : MethodName := ⟨RX12, "meantBy", "(II)I"⟩
abbrev cX12_meant : ByteArray := prog_14_method_117_code
def yX12_meant : MethodName := ⟨RX12, "meant", "(II)I"⟩
abbrev cX12_beginOf : ByteArray := prog_14_method_118_code
def yX12_beginOf : MethodName := ⟨RX12, "beginOf", "(II)I"⟩
abbrev cX12_apart : ByteArray := prog_14_method_119_code
def yX12_apart : MethodName := ⟨RX12, "apart", "()I"⟩
abbrev cX12_layFar : ByteArray := prog_14_method_120_code
def yX12_layFar : MethodName := ⟨RX12, "layFar", "()V"⟩
abbrev cX12_news : ByteArray := prog_14_method_121_code
def yX12_news : MethodName := ⟨RX12, "news", "(II)I"⟩
abbrev cX12_mayBe : ByteArray := prog_14_method_122_code
def yX12_mayBe : MethodName := ⟨RX12, "mayBe", "(III)Z"⟩
abbrev cX12_maybe : ByteArray := prog_14_method_123_code
def yX12_maybe : MethodName := ⟨RX12, "maybe", "(II)I"⟩
abbrev cX12_mayStand : ByteArray := prog_14_method_124_code
def yX12_mayStand : MethodName := ⟨RX12, "mayStand", "(III)I"⟩
abbrev cX12_maystand : ByteArray := prog_14_method_125_code
def yX12_maystand : MethodName := ⟨RX12, "maystand", "(III)I"⟩
abbrev cX12_likeliest : ByteArray := prog_14_method_126_code
def yX12_likeliest : MethodName := ⟨RX12, "likeliest", "(III)I"⟩
abbrev cX12_noted : ByteArray := prog_14_method_127_code
def yX12_noted : MethodName := ⟨RX12, "noted", "(III)I"⟩
abbrev cX12_note : ByteArray := prog_14_method_128_code
def yX12_note : MethodName := ⟨RX12, "note", "(III)I"⟩
abbrev cX12_strike : ByteArray := prog_14_method_129_code
def yX12_strike : MethodName := ⟨RX12, "strike", "(I)I"⟩
abbrev cX12_known : ByteArray := prog_14_method_130_code
def yX12_known : MethodName := ⟨RX12, "known", "(I)Z"⟩
abbrev cX12_knownBy : ByteArray := prog_14_method_131_code
def yX12_knownBy : MethodName := ⟨RX12, "knownBy", "()I"⟩
abbrev cX12_isTale : ByteArray := prog_14_method_132_code
def yX12_isTale : MethodName := ⟨RX12, "isTale", "(III)Z"⟩
abbrev cX12_layTales : ByteArray := prog_14_method_133_code
def yX12_layTales : MethodName := ⟨RX12, "layTales", "(I)V"⟩
abbrev cX12_tales : ByteArray := prog_14_method_134_code
def yX12_tales : MethodName := ⟨RX12, "tales", "()I"⟩
abbrev cX12_tale : ByteArray := prog_14_method_135_code
def yX12_tale : MethodName := ⟨RX12, "tale", "(II)I"⟩
abbrev cX12_stacksOf : ByteArray := prog_14_method_136_code
def yX12_stacksOf : MethodName := ⟨RX12, "stacksOf", "(I)I"⟩
abbrev cX12_tried : ByteArray := prog_14_method_137_code
def yX12_tried : MethodName := ⟨RX12, "tried", "(III)I"⟩
abbrev cX12_put : ByteArray := prog_14_method_138_code
def yX12_put : MethodName := ⟨RX12, "put", "([II)V"⟩
abbrev cX12_take : ByteArray := prog_14_method_139_code
def yX12_take : MethodName := ⟨RX12, "take", "([II)V"⟩
abbrev cX12_remember : ByteArray := prog_14_method_140_code
def yX12_remember : MethodName := ⟨RX12, "remember", "()V"⟩
abbrev cX12_undo : ByteArray := prog_14_method_141_code
def yX12_undo : MethodName := ⟨RX12, "undo", "()I"⟩
abbrev cX12_keep : ByteArray := prog_14_method_142_code
def yX12_keep : MethodName := ⟨RX12, "keep", "()I"⟩
abbrev cX12_back : ByteArray := prog_14_method_143_code
def yX12_back : MethodName := ⟨RX12, "back", "()I"⟩
abbrev cX12_count : ByteArray := prog_14_method_144_code
def yX12_count : MethodName := ⟨RX12, "count", "(I)I"⟩
def RJ6 : String := "java/lang/Integer"
def TJ6 : u_T := fun k => match k with
  | _ => ("", "", "", false)
def tyJ6 : Nat → FieldType := fun k => match k with
  | _ => .int
abbrev wsJ60 : List Cond := u_ws RJ6 TJ6 0
theorem nmJ6 : ∀ a, a < 0 → ∀ b, b < 0 → a ≠ b → (TJ6 a).2.1 ≠ (TJ6 b).2.1 := by decide +kernel
theorem tyJ6_ok : ∀ k, k < 0 → parseFieldDescriptor (TJ6 k).2.2.1 = some (tyJ6 k) := by decide +kernel
abbrev cJ6_bitCount_0f7a4 : ByteArray := prog_20_method_49_code
def yJ6_bitCount_0f7a4 : MethodName := ⟨RJ6, "bitCount", "(I)I"⟩
def RJ9 : String := "java/lang/Math"
def TJ9 : u_T := fun k => match k with
  | _ => ("", "", "", false)
def tyJ9 : Nat → FieldType := fun k => match k with
  | _ => .int
abbrev wsJ90 : List Cond := u_ws RJ9 TJ9 0
theorem nmJ9 : ∀ a, a < 0 → ∀ b, b < 0 → a ≠ b → (TJ9 a).2.1 ≠ (TJ9 b).2.1 := by decide +kernel
theorem tyJ9_ok : ∀ k, k < 0 → parseFieldDescriptor (TJ9 k).2.2.1 = some (tyJ9 k) := by decide +kernel
abbrev cJ9_max_7cf53 : ByteArray := prog_21_method_65_code
def yJ9_max_7cf53 : MethodName := ⟨RJ9, "max", "(II)I"⟩
abbrev cJ9_min_7cf53 : ByteArray := prog_21_method_69_code
def yJ9_min_7cf53 : MethodName := ⟨RJ9, "min", "(II)I"⟩
def RL : String := "HayWritingLaw"
abbrev cL_look : ByteArray := method_3_code
def yL_look : MethodName := ⟨RL, "look", "(LHayWriting;II[J)I"⟩
abbrev cL_law : ByteArray := code
def yL_law : MethodName := ⟨RL, "law", "([I)Z"⟩
abbrev vwCl : List vw_C := [(RX0, TX0, 7), (RX1, TX1, 5), (RX2, TX2, 7), (RX3, TX3, 2), (RX4, TX4, 10), (RX5, TX5, 6), (RX6, TX6, 8), (RX7, TX7, 18), (RX8, TX8, 6), (RX9, TX9, 19), (RX10, TX10, 7), (RX11, TX11, 14), (RX12, TX12, 101)]
end
section
/-- element of a list, with a default; by structural recursion, so that it reduces on literals -/
def nth {α : Type} (d : α) : List α → Nat → α
  | [], _ => d
  | a :: _, 0 => a
  | _ :: l, n + 1 => nth d l n
/-- the cells that the law makes, in their order: (class number, fields) or (13 int, 14 long, 15 boolean; length) -/
def layLL : List (List (Nat × Nat)) := [[(11, 14), (13, 700), (8, 6), (13, 701), (13, 701), (13, 701), (9, 19), (13, 5), (13, 5), (13, 5), (13, 48), (13, 48)],
  [(13, 48), (6, 8), (13, 9), (13, 9), (13, 32), (13, 6), (13, 6), (13, 6), (0, 7), (13, 3), (13, 3), (13, 3)],
  [(13, 3), (13, 3), (10, 7), (13, 4), (13, 4), (13, 5), (13, 5), (13, 5), (1, 5), (13, 64), (13, 64), (13, 6)],
  [(14, 64), (9, 19), (13, 5), (13, 5), (13, 5), (13, 48), (13, 48), (13, 48), (6, 8), (13, 9), (13, 9), (13, 32)],
  [(13, 6), (13, 6), (13, 6), (0, 7), (13, 3), (13, 3), (13, 3), (13, 3), (13, 3), (10, 7), (13, 4), (13, 4)],
  [(13, 5), (13, 5), (13, 5), (1, 5), (13, 64), (13, 64), (13, 6), (14, 64), (4, 10), (13, 72), (5, 6), (13, 48)],
  [(13, 18), (5, 6), (13, 48), (13, 18), (3, 2), (13, 1000), (2, 7), (13, 24), (13, 24), (13, 24), (13, 24), (15, 24)],
  [(7, 18), (13, 4), (5, 6), (13, 48), (13, 18), (13, 48), (13, 48), (13, 3), (13, 4), (13, 4), (13, 4), (12, 101)],
  [(13, 700), (13, 127), (13, 6), (15, 3), (13, 10), (13, 10), (13, 10), (13, 96), (13, 18), (13, 18), (13, 12), (13, 12)],
  [(13, 6), (13, 6), (13, 8), (13, 8), (13, 10), (13, 10), (13, 40), (13, 18), (13, 128), (13, 128), (13, 128), (13, 96)],
  [(13, 96), (14, 6), (14, 64), (13, 96), (13, 2), (13, 18), (13, 4), (13, 4), (13, 4), (13, 9), (13, 72), (15, 24)],
  [(13, 1000), (13, 50), (13, 18), (14, 1)]]
def lay (c : Nat) : Nat × Nat := nth (99, 0) (nth [] layLL (c / 12)) (c % 12)
/-- slots of the first n cells -/
def SL : Nat → Nat
  | 0 => 0
  | n + 1 => SL n + (lay n).2
def refLL : List (List (List (Option Nat))) := [[[some 1, none, none, none, some 2, some 6, some 37, some 68, some 70, some 73, none, some 76, some 78, some 84], [], [some 3, some 4, some 5, some 1], [], [], [], [none, none, none, none, none, none, none, none, none, some 7, some 8, some 9, some 10, some 11, some 12, some 13, some 20, some 26, some 32], [], [], [], [], []],
  [[], [none, none, some 14, some 15, some 16, some 17, some 18, some 19], [], [], [], [], [], [], [none, none, some 21, some 22, some 23, some 24, some 25], [], [], []],
  [[], [], [none, none, some 27, some 28, some 29, some 30, some 31], [], [], [], [], [], [none, some 33, some 34, some 35, some 36], [], [], []],
  [[], [none, none, none, none, none, none, none, none, none, some 38, some 39, some 40, some 41, some 42, some 43, some 44, some 51, some 57, some 63], [], [], [], [], [], [], [none, none, some 45, some 46, some 47, some 48, some 49, some 50], [], [], []],
  [[], [], [], [none, none, some 52, some 53, some 54, some 55, some 56], [], [], [], [], [], [none, none, some 58, some 59, some 60, some 61, some 62], [], []],
  [[], [], [], [none, some 64, some 65, some 66, some 67], [], [], [], [], [none, none, some 2, none, none, none, none, none, some 69], [], [none, none, none, none, some 71, some 72], []],
  [[], [none, none, none, none, some 74, some 75], [], [], [none, some 77], [], [none, none, some 79, some 80, some 81, some 82, some 83], [], [], [], [], []],
  [[none, none, none, none, none, none, none, none, some 85, some 6, some 70, some 86, some 89, some 90, some 91, some 92, some 93, some 94], [], [none, none, none, none, some 87, some 88], [], [], [], [], [], [], [], [], [some 96, none, none, some 97, none, none, none, none, none, none, none, none, none, none, none, none, none, none, none, none, none, none, none, none, none, none, none, none, none, none, none, none, none, none, none, none, some 98, some 99, some 100, some 101, some 102, some 103, some 104, some 105, some 106, some 107, some 108, some 109, some 110, some 111, some 112, some 113, some 114, some 115, some 116, some 117, some 118, some 119, some 120, none, none, none, none, none, none, some 121, some 122, none, some 123, some 124, none, none, none, some 125, none, none, none, none, none, none, none, none, some 126, some 127, some 128, none, none, some 129, none, none, some 130, some 131, none, none, none, some 132, none, some 133, none, none, some 134]],
  [[], [], [], [], [], [], [], [], [], [], [], []],
  [[], [], [], [], [], [], [], [], [], [], [], []],
  [[], [], [], [], [], [], [], [], [], [], [], []],
  [[], [], [], []]]
/-- where each reference field points once all is made; rd: what Reader.told is -/
def R0 (rd : Option Nat) (o k : Nat) : Option Nat := if o = 68 then (if k = 3 then rd else nth none [none, none, some 2, none, none, none, none, none, some 69] k) else nth none (nth [] (nth [] refLL (o / 12)) (o % 12)) k
def nflL : List Nat := [7, 5, 7, 2, 10, 6, 8, 18, 6, 19, 7, 14, 101]
def nfl (ci : Nat) : Nat := nth 0 nflL ci
def ftgLL : List (List Nat) := [[0, 0, 2, 2, 2, 2, 2],
  [0, 2, 2, 2, 2],
  [0, 0, 2, 2, 2, 2, 2],
  [0, 2],
  [0, 0, 2, 2, 0, 0, 0, 3, 2, 0],
  [0, 0, 0, 0, 2, 2],
  [0, 0, 2, 2, 2, 2, 2, 2],
  [0, 0, 0, 0, 0, 0, 0, 0, 2, 2, 2, 2, 2, 2, 2, 2, 2, 2],
  [2, 2, 2, 2, 0, 0],
  [0, 0, 0, 0, 0, 0, 0, 0, 1, 2, 2, 2, 2, 2, 2, 2, 2, 2, 2],
  [0, 0, 2, 2, 2, 2, 2],
  [2, 0, 0, 0, 2, 2, 2, 2, 2, 2, 3, 2, 2, 2],
  [2, 0, 0, 2, 0, 0, 0, 0, 0, 0, 0, 0, 0, 0, 0, 0, 0, 0, 0, 0, 0, 0, 3, 0, 0, 0, 0, 0, 0, 0, 0, 0, 0, 0, 3, 3, 2, 2, 2, 2, 2, 2, 2, 2, 2, 2, 2, 2, 2, 2, 2, 2, 2, 2, 2, 2, 2, 2, 2, 0, 0, 0, 0, 3, 3, 2, 2, 3, 2, 2, 0, 0, 1, 2, 0, 0, 0, 0, 0, 0, 0, 0, 2, 2, 2, 0, 0, 2, 0, 0, 2, 2, 0, 0, 0, 2, 3, 2, 0, 1, 2]]
/-- a field's kind: 0 int, 1 long, 2 a reference, 3 boolean -/
def ftg (ci k : Nat) : Nat := nth 9 (nth [] ftgLL ci) k
end
section
/-! THE SMALL MACHINE: what the methods do, over a memory of cells by number (0 .. 135, in the order in which the law makes them): as a predicate transformer that reduces by itself -/
/-- ints, longs, references by cell and place; how many cells there are -/
abbrev Mm : Type := (Nat → Nat → Int32) × (Nat → Nat → Int64) × (Nat → Nat → Option Nat) × Nat
/-- pc, instruction, its length, whether a jump goes back to it, group, four numbers, a value, a switch -/
abbrev En : Type := Nat × Instr × Nat × Bool × Nat × (Nat × Nat × Nat × Nat) × Value × List (Int32 × Nat)
def cu {α : Type} (f : Nat → α) (c : Nat) (g : α) : Nat → α := fun a => if a = c then g else f a
def wI (M : Mm) (c k : Nat) (x : Int32) : Mm := (cu M.1 c (upd (M.1 c) k x), M.2)
def wL (M : Mm) (c k : Nat) (x : Int64) : Mm := (M.1, cu M.2.1 c (vp_updL (M.2.1 c) k x), M.2.2)
def wR (M : Mm) (c k : Nat) (x : Option Nat) : Mm := (M.1, M.2.1, cu M.2.2.1 c (fun j => if j = k then x else M.2.2.1 c j), M.2.2.2)
def wA (M : Mm) (c : Nat) (f : Nat → Int32) : Mm := (cu M.1 c f, M.2)
def mk1 (M : Mm) : Mm := (cu M.1 M.2.2.2 (fun _ => 0), cu M.2.1 M.2.2.2 (fun _ => 0), cu M.2.2.1 M.2.2.2 (fun _ => none), M.2.2.2 + 1)
def fv (M : Mm) (o k t : Nat) : Value := match t with
  | 1 => .long (M.2.1 o k)
  | 2 => va_rf (M.2.2.1 o k)
  | _ => .int (M.1 o k)
def klL (v : Value) : Value := match v with
  | .long _ => .null
  | v => v
def lset : List Value → Nat → Value → List Value
  | [], _, _ => []
  | _ :: l, 0, v => v :: l
  | a :: l, 1, v => klL a :: lset l 0 v
  | a :: l, n + 2, v => a :: lset l (n + 1) v
def b2i (f : Int32 → Int32 → Int32) (st : List Value) : Option (List Value) := match st with
  | .int y :: .int x :: r => some (.int (f x y) :: r)
  | _ => none
def b2l (f : Int64 → Int64 → Int64) (st : List Value) : Option (List Value) := match st with
  | .long y :: .long x :: r => some (.long (f x y) :: r)
  | _ => none
def ldI (v : Value) (st : List Value) : Option (List Value) := match v with
  | .int x => some (.int x :: st)
  | _ => none
def ldL (v : Value) (st : List Value) : Option (List Value) := match v with
  | .long x => some (.long x :: st)
  | _ => none
def ldA (v : Value) (st : List Value) : Option (List Value) := match v with
  | .ref x => some (.ref x :: st)
  | _ => none
/-- group 0: the operand stack alone changes -/
def pst (e : En) (ls st : List Value) (M : Mm) : Option (List Value) := match e.2.1 with
  | .iconst _ => some (e.2.2.2.2.2.2.1 :: st)
  | .bipush _ => some (e.2.2.2.2.2.2.1 :: st)
  | .sipush _ => some (e.2.2.2.2.2.2.1 :: st)
  | .ldc _ => some (e.2.2.2.2.2.2.1 :: st)
  | .ldc_w _ => some (e.2.2.2.2.2.2.1 :: st)
  | .lconst _ => some (e.2.2.2.2.2.2.1 :: st)
  | .ldc2_w _ => some (e.2.2.2.2.2.2.1 :: st)
  | .iload _ => ldI (nth .null ls e.2.2.2.2.2.1.1) st
  | .iload_n _ => ldI (nth .null ls e.2.2.2.2.2.1.1) st
  | .lload _ => ldL (nth .null ls e.2.2.2.2.2.1.1) st
  | .lload_n _ => ldL (nth .null ls e.2.2.2.2.2.1.1) st
  | .aload _ => ldA (nth .null ls e.2.2.2.2.2.1.1) st
  | .aload_n _ => ldA (nth .null ls e.2.2.2.2.2.1.1) st
  | .iadd => b2i (fun x y => x + y) st
  | .isub => b2i (fun x y => x - y) st
  | .imul => b2i (fun x y => x * y) st
  | .iand => b2i (fun x y => x &&& y) st
  | .ior => b2i (fun x y => x ||| y) st
  | .ixor => b2i (fun x y => x ^^^ y) st
  | .ishl => b2i (fun x y => x <<< (y &&& 31)) st
  | .ishr => b2i (fun x y => x >>> (y &&& 31)) st
  | .iushr => b2i (fun x y => (x.toUInt32 >>> (y.toUInt32 &&& Int32.toUInt32 31)).toInt32) st
  | .ladd => b2l (fun x y => x + y) st
  | .lsub => b2l (fun x y => x - y) st
  | .lmul => b2l (fun x y => x * y) st
  | .land => b2l (fun x y => x &&& y) st
  | .lor => b2l (fun x y => x ||| y) st
  | .ineg => match st with
    | .int x :: r => some (.int (-x) :: r)
    | _ => none
  | .lneg => match st with
    | .long x :: r => some (.long (-x) :: r)
    | _ => none
  | .lshl => match st with
    | .int y :: .long x :: r => some (.long (x <<< (y.toInt64 &&& 63)) :: r)
    | _ => none
  | .lcmp => match st with
    | .long y :: .long x :: r => some (.int (lg_cmp x y) :: r)
    | _ => none
  | .i2l => match st with
    | .int x :: r => some (.long x.toInt64 :: r)
    | _ => none
  | .l2i => match st with
    | .long x :: r => some (.int x.toInt32 :: r)
    | _ => none
  | .dup => match st with
    | .int x :: r => some (.int x :: .int x :: r)
    | .ref x :: r => some (.ref x :: .ref x :: r)
    | _ => none
  | .pop => match st with
    | .int _ :: r => some r
    | .ref _ :: r => some r
    | _ => none
  | .dup2 => match st with
    | .int x :: .ref y :: r => some (.int x :: .ref y :: .int x :: .ref y :: r)
    | _ => none
  | .getfield _ => match st with
    | .ref o :: r => match Nat.beq (lay o).1 e.2.2.2.2.2.1.1 && Nat.blt o M.2.2.2 with
      | true => some (fv M o e.2.2.2.2.2.1.2.1 e.2.2.2.2.2.1.2.2.1 :: r)
      | false => none
    | _ => none
  | .arraylength => match st with
    | .ref o :: r => match Nat.ble 13 (lay o).1 && Nat.ble (lay o).1 15 && Nat.blt o M.2.2.2 with
      | true => some (.int (nI (lay o).2) :: r)
      | false => none
    | _ => none
  | _ => none
/-- group 1: a local is written -/
def lst (e : En) (ls st : List Value) : Option (List Value × List Value) := match e.2.1 with
  | .istore _ => match st with
    | .int x :: r => some (lset ls e.2.2.2.2.2.1.1 (.int x), r)
    | _ => none
  | .istore_n _ => match st with
    | .int x :: r => some (lset ls e.2.2.2.2.2.1.1 (.int x), r)
    | _ => none
  | .astore _ => match st with
    | .ref x :: r => some (lset ls e.2.2.2.2.2.1.1 (.ref x), r)
    | _ => none
  | .astore_n _ => match st with
    | .ref x :: r => some (lset ls e.2.2.2.2.2.1.1 (.ref x), r)
    | _ => none
  | .lstore _ => match st with
    | .long x :: r => some (lset (lset ls (e.2.2.2.2.2.1.1 + 1) .null) e.2.2.2.2.2.1.1 (.long x), r)
    | _ => none
  | .lstore_n _ => match st with
    | .long x :: r => some (lset (lset ls (e.2.2.2.2.2.1.1 + 1) .null) e.2.2.2.2.2.1.1 (.long x), r)
    | _ => none
  | .iinc _ _ => match nth .null ls e.2.2.2.2.2.1.1 with
    | .int x => match e.2.2.2.2.2.2.1 with
      | .int k => some (lset ls e.2.2.2.2.2.1.1 (.int (x + k)), st)
      | _ => none
    | _ => none
  | _ => none
def c1P (o : ClassFile.Cond) (x : Int32) : Prop := match o with
  | .eq => x = 0
  | .ne => x ≠ 0
  | .lt => x < 0
  | .ge => 0 ≤ x
  | .gt => 0 < x
  | .le => x ≤ 0
def c2P (o : ClassFile.Cond) (x y : Int32) : Prop := match o with
  | .eq => x = y
  | .ne => x ≠ y
  | .lt => x < y
  | .ge => y ≤ x
  | .gt => y < x
  | .le => x ≤ y
/-- group 2: a condition -/
def cst (e : En) (st : List Value) : Option (Prop × List Value) := match e.2.1 with
  | .ifCond o _ => match st with
    | .int x :: r => some (c1P o x, r)
    | _ => none
  | .if_icmp o _ => match st with
    | .int y :: .int x :: r => some (c2P o x y, r)
    | _ => none
  | _ => none
/-- group 5: a place of an array is read: its length, the index, the stack by the place -/
def ald (e : En) (st : List Value) (M : Mm) : Option (Nat × Int32 × (Nat → List Value)) := match e.2.1 with
  | .iaload => match st with
    | .int i :: .ref o :: r => match Nat.beq (lay o).1 13 && Nat.blt o M.2.2.2 with
      | true => some ((lay o).2, i, fun j => .int (M.1 o j) :: r)
      | false => none
    | _ => none
  | .laload => match st with
    | .int i :: .ref o :: r => match Nat.beq (lay o).1 14 && Nat.blt o M.2.2.2 with
      | true => some ((lay o).2, i, fun j => .long (M.2.1 o j) :: r)
      | false => none
    | _ => none
  | .baload => match st with
    | .int i :: .ref o :: r => match Nat.beq (lay o).1 15 && Nat.blt o M.2.2.2 with
      | true => some ((lay o).2, i, fun j => .int (M.1 o j) :: r)
      | false => none
    | _ => none
  | _ => none
/-- group 7 and 14: a place of an array is written -/
def ast (e : En) (st : List Value) (M : Mm) : Option (Nat × Int32 × Prop × List Value × (Nat → Mm)) := match e.2.1 with
  | .iastore => match st with
    | .int x :: .int i :: .ref o :: r => match Nat.beq (lay o).1 13 && Nat.blt o M.2.2.2 with
      | true => some ((lay o).2, i, True, r, fun j => wI M o j x)
      | false => none
    | _ => none
  | .lastore => match st with
    | .long x :: .int i :: .ref o :: r => match Nat.beq (lay o).1 14 && Nat.blt o M.2.2.2 with
      | true => some ((lay o).2, i, True, r, fun j => wL M o j x)
      | false => none
    | _ => none
  | .bastore => match st with
    | .int x :: .int i :: .ref o :: r => match Nat.beq (lay o).1 15 && Nat.blt o M.2.2.2 with
      | true => some ((lay o).2, i, x = 0 ∨ x = 1, r, fun j => wI M o j x)
      | false => none
    | _ => none
  | _ => none
/-- groups 6 and 13: divisions; fields written -/
def obs (e : En) (st : List Value) (M : Mm) : Option (Prop × List Value × Mm) := match e.2.1 with
  | .idiv => match st with
    | .int y :: .int x :: r => some (¬ y = 0, .int (x / y) :: r, M)
    | _ => none
  | .irem => match st with
    | .int y :: .int x :: r => some (¬ y = 0, .int (x - x / y * y) :: r, M)
    | _ => none
  | .ldiv => match st with
    | .long y :: .long x :: r => some (¬ y = 0, .long (x / y) :: r, M)
    | _ => none
  | .lrem => match st with
    | .long y :: .long x :: r => some (¬ y = 0, .long (x - x / y * y) :: r, M)
    | _ => none
  | .putfield _ => match st with
    | .int x :: .ref o :: r => match Nat.beq (lay o).1 e.2.2.2.2.2.1.1 && Nat.blt o M.2.2.2 with
      | true => match e.2.2.2.2.2.1.2.2.1 with
        | 0 => some (True, r, wI M o e.2.2.2.2.2.1.2.1 x)
        | 3 => some (x = 0 ∨ x = 1, r, wI M o e.2.2.2.2.2.1.2.1 x)
        | _ => none
      | false => none
    | .long x :: .ref o :: r => match Nat.beq (lay o).1 e.2.2.2.2.2.1.1 && Nat.blt o M.2.2.2 with
      | true => match e.2.2.2.2.2.1.2.2.1 with
        | 1 => some (True, r, wL M o e.2.2.2.2.2.1.2.1 x)
        | _ => none
      | false => none
    | .ref x :: .ref o :: r => match Nat.beq (lay o).1 e.2.2.2.2.2.1.1 && Nat.blt o M.2.2.2 with
      | true => match e.2.2.2.2.2.1.2.2.1 with
        | 2 => some (True, r, wR M o e.2.2.2.2.2.1.2.1 (some x))
        | _ => none
      | false => none
    | _ => none
  | _ => none
/-- group 10: a cell is made -/
def nws (e : En) (nmax : Nat) (st : List Value) (M : Mm) : Option (Prop × List Value × Mm) := match Nat.blt M.2.2.2 nmax && Nat.beq (lay M.2.2.2).1 e.2.2.2.2.2.1.1 with
  | true => match e.2.1 with
    | .new _ => some (True, .ref M.2.2.2 :: st, mk1 M)
    | .newarray _ => match st with
      | .int x :: r => some (x = nI (lay M.2.2.2).2, .ref M.2.2.2 :: r, mk1 M)
      | _ => none
    | _ => none
  | false => none
/-- group 11: System.arraycopy of ints -/
def cps (st : List Value) (M : Mm) : Option ((Int32 × Int32 × Int32) × (Nat × Nat) × List Value × (Nat → Nat → Nat → Mm)) := match st with
  | .int n :: .int dp :: .ref b :: .int sp :: .ref a :: r => match Nat.beq (lay a).1 13 && Nat.blt a M.2.2.2 && (Nat.beq (lay b).1 13 && Nat.blt b M.2.2.2) with
    | true => some ((sp, dp, n), ((lay a).2, (lay b).2), r, fun s d k => wA M b (va_cpy (M.1 a) (M.1 b) s d k))
    | false => none
  | _ => none
def swP (J : Nat → Prop) (x : Int32) (d : Nat) : List (Int32 × Nat) → Prop
  | [] => J d
  | q :: l => (x = q.1 → J q.2) ∧ (¬ x = q.1 → swP J x d l)
def cats : List Value → Nat
  | [] => 0
  | v :: l => v.category + cats l
/-- the first n of a stack, the last one first -/
def tkr : Nat → List Value → List Value → Option (List Value × List Value)
  | 0, acc, st => some (acc, st)
  | n + 1, acc, v :: st => tkr n (v :: acc) st
  | _ + 1, _, [] => none
def rcv (kd ci n : Nat) (as : List Value) : Bool := match kd with
  | 0 => match as with
    | .ref o :: _ => Nat.beq (lay o).1 ci && Nat.blt o n || Nat.beq o 900
    | _ => false
  | 2 => match as with
    | .ref _ :: _ => true
    | _ => false
  | _ => true
/-- one step: J a jump, N the next instruction, Q the end, Cl a call -/
def stp (Cl : Nat → List Value → Mm → (Option Value → Mm → Prop) → Prop) (mc : Nat → Nat) (ret nmax : Nat) (Q : Option Value → Mm → Prop) (J : Nat → List Value → List Value → Mm → Prop) (e : En) (N : List Value → List Value → Mm → Prop) (ls st : List Value) (M : Mm) : Prop :=
  match e.2.2.2.2.1 with
  | 0 => match pst e ls st M with
    | some st' => N ls st' M
    | none => False
  | 1 => match lst e ls st with
    | some q => N q.1 q.2 M
    | none => False
  | 2 => match cst e st with
    | some q => (q.1 → J e.2.2.2.2.2.1.1 ls q.2 M) ∧ (¬ q.1 → N ls q.2 M)
    | none => False
  | 3 => J e.2.2.2.2.2.1.1 ls st M
  | 4 => match st with
    | .int x :: r => swP (fun t => J t ls r M) x e.2.2.2.2.2.1.1 e.2.2.2.2.2.2.2
    | _ => False
  | 5 => match ald e st M with
    | some q => ∃ j : Nat, j < q.1 ∧ q.2.1 = nI j ∧ N ls (q.2.2 j) M
    | none => False
  | 6 => match obs e st M with
    | some q => q.1 ∧ N ls q.2.1 q.2.2
    | none => False
  | 7 => match ast e st M with
    | some q => ∃ j : Nat, j < q.1 ∧ q.2.1 = nI j ∧ q.2.2.1 ∧ N ls q.2.2.2.1 (q.2.2.2.2 j)
    | none => False
  | 8 => match tkr e.2.2.2.2.2.1.2.1 [] st with
    | some q => match rcv e.2.2.2.2.2.1.2.2.2 e.2.2.2.2.2.1.2.2.1 M.2.2.2 q.1 && Nat.ble (cats q.2) 8 && Nat.ble (M.2.2.2 + mc e.2.2.2.2.2.1.1) nmax with
      | true => Cl e.2.2.2.2.2.1.1 q.1 M (fun r M' => N ls (r.toList ++ q.2) M')
      | false => False
    | none => False
  | 9 => match e.2.1 with
    | .ireturn => match st with
      | [.int x] => match ret with
        | 1 => Q (some (.int x)) M
        | 2 => (x = 0 ∨ x = 1) ∧ Q (some (.int x)) M
        | _ => False
      | _ => False
    | .lreturn => match st with
      | [.long x] => match ret with
        | 3 => Q (some (.long x)) M
        | _ => False
      | _ => False
    | .return_ => match st with
      | [] => match ret with
        | 0 => Q none M
        | _ => False
      | _ => False
    | _ => False
  | 10 => match nws e nmax st M with
    | some q => q.1 ∧ N ls q.2.1 q.2.2
    | none => False
  | 11 => match cps st M with
    | some q => match Nat.ble (cats q.2.2.1) 8 with
      | true => ∃ s d k : Nat, q.1.1 = nI s ∧ q.1.2.1 = nI d ∧ q.1.2.2 = nI k ∧ s + k ≤ q.2.1.1 ∧ d + k ≤ q.2.1.2 ∧ N ls q.2.2.1 (q.2.2.2 s d k)
      | false => False
    | none => False
  | 12 => match st with
    | .ref _ :: r => match Nat.ble (cats r) 8 with
      | true => N ls r M
      | false => False
    | _ => False
  | 13 => match obs e st M with
    | some q => N ls q.2.1 q.2.2
    | none => False
  | 14 => match ast e st M with
    | some q => ∃ j : Nat, j < q.1 ∧ q.2.1 = nI j ∧ q.2.2.1 ∧ N ls q.2.2.2.1 (q.2.2.2.2 j)
    | none => False
  | _ => False
def sfx (code : List En) (t : Nat) : List En := match code with
  | [] => []
  | e :: l => match Nat.beq e.1 t with
    | true => e :: l
    | false => sfx l t
/-- up to the next place to which a jump goes back: K there -/
def Gn (Cl : Nat → List Value → Mm → (Option Value → Mm → Prop) → Prop) (mc : Nat → Nat) (ret nmax : Nat) (Q : Option Value → Mm → Prop) (K : Nat → List Value → List Value → Mm → Prop) (code : List En) : Nat → List En → List Value → List Value → Mm → Prop
  | 0, _, _, _, _ => False
  | _ + 1, [], _, _, _ => False
  | n + 1, e :: rest, ls, st, M => match e.2.2.2.1 with
    | true => K e.1 ls st M
    | false => stp Cl mc ret nmax Q (fun t => Gn Cl mc ret nmax Q K code n (sfx code t)) e (Gn Cl mc ret nmax Q K code n rest) ls st M
/-- from here the method comes to its end with Q: the least such -/
def Go (Cl : Nat → List Value → Mm → (Option Value → Mm → Prop) → Prop) (mc : Nat → Nat) (ret nmax : Nat) (Q : Option Value → Mm → Prop) (code : List En) (pc : Nat) (ls st : List Value) (M : Mm) : Prop :=
  ∀ P : Nat → List Value → List Value → Mm → Prop, (∀ (t : Nat) (e : En) (rest : List En), sfx code t = e :: rest → ∀ ls st M, stp Cl mc ret nmax Q P e (P (e.1 + e.2.2.1)) ls st M → P t ls st M) → P pc ls st M
def en0 : List Value → List Value
  | [] => []
  | .long x :: l => .long x :: .null :: en0 l
  | v :: l => v :: en0 l
def pad : Nat → List Value → List Value
  | 0, _ => []
  | n + 1, [] => .null :: pad n []
  | n + 1, a :: l => a :: pad n l
end
section
/-! MONOTONE; the rule by which a method is run -/
section
variable {Cl Cl' : Nat → List Value → Mm → (Option Value → Mm → Prop) → Prop} {mc : Nat → Nat} {ret nmax : Nat} {Q Q' : Option Value → Mm → Prop} {J J' : Nat → List Value → List Value → Mm → Prop} {N N' : List Value → List Value → Mm → Prop} {e : En} {ls st : List Value} {M : Mm}
theorem swP_mono {J J' : Nat → Prop} {x : Int32} {d : Nat} (hJ : ∀ t, J t → J' t) : ∀ l, swP J x d l → swP J' x d l
  | [], h => hJ _ h
  | _ :: l, h => ⟨fun q => hJ _ (h.1 q), fun q => swP_mono hJ l (h.2 q)⟩
theorem stp_mono (hC : ∀ k as M (P P' : Option Value → Mm → Prop), (∀ r M', P r M' → P' r M') → Cl k as M P → Cl' k as M P') (hQ : ∀ r M, Q r M → Q' r M) (hJ : ∀ t ls st M, J t ls st M → J' t ls st M) (hN : ∀ ls st M, N ls st M → N' ls st M)
    (h : stp Cl mc ret nmax Q J e N ls st M) : stp Cl' mc ret nmax Q' J' e N' ls st M := by
  unfold stp at h ⊢
  split at h <;> rename_i hg <;> (try simp only [hg])
  · cases hp : pst e ls st M with
    | none => simp only [hp] at h
    | some q => simp only [hp] at h ⊢; exact hN _ _ _ h
  · cases hp : lst e ls st with
    | none => simp only [hp] at h
    | some q => simp only [hp] at h ⊢; exact hN _ _ _ h
  · cases hp : cst e st with
    | none => simp only [hp] at h
    | some q => simp only [hp] at h ⊢; exact ⟨fun z => hJ _ _ _ _ (h.1 z), fun z => hN _ _ _ (h.2 z)⟩
  · exact hJ _ _ _ _ h
  · split at h
    · exact swP_mono (fun t q => hJ _ _ _ _ q) _ h
    · exact h.elim
  · cases hp : ald e st M with
    | none => simp only [hp] at h
    | some q => simp only [hp] at h ⊢; obtain ⟨j, h1, h2, h3⟩ := h; exact ⟨j, h1, h2, hN _ _ _ h3⟩
  · cases hp : obs e st M with
    | none => simp only [hp] at h
    | some q => simp only [hp] at h ⊢; exact ⟨h.1, hN _ _ _ h.2⟩
  · cases hp : ast e st M with
    | none => simp only [hp] at h
    | some q => simp only [hp] at h ⊢; obtain ⟨j, h1, h2, h3, h4⟩ := h; exact ⟨j, h1, h2, h3, hN _ _ _ h4⟩
  · cases hp : tkr e.2.2.2.2.2.1.2.1 [] st with
    | none => simp only [hp] at h
    | some q =>
      simp only [hp] at h ⊢
      split at h
      · exact hC _ _ _ _ _ (fun r M' z => hN _ _ _ z) h
      · exact h.elim
  · split at h
    · split at h
      · split at h
        · exact hQ _ _ h
        · exact ⟨h.1, hQ _ _ h.2⟩
        · exact h.elim
      · exact h.elim
    · split at h
      · split at h
        · exact hQ _ _ h
        · exact h.elim
      · exact h.elim
    · split at h
      · split at h
        · exact hQ _ _ h
        · exact h.elim
      · exact h.elim
    · exact h.elim
  · cases hp : nws e nmax st M with
    | none => simp only [hp] at h
    | some q => simp only [hp] at h ⊢; exact ⟨h.1, hN _ _ _ h.2⟩
  · cases hp : cps st M with
    | none => simp only [hp] at h
    | some q =>
      simp only [hp] at h ⊢
      split at h
      · obtain ⟨s, d, k, h1, h2, h3, h4, h5, h6⟩ := h
        exact ⟨s, d, k, h1, h2, h3, h4, h5, hN _ _ _ h6⟩
      · exact h.elim
  · split at h
    · split at h
      · exact hN _ _ _ h
      · exact h.elim
    · exact h.elim
  · cases hp : obs e st M with
    | none => simp only [hp] at h
    | some q => simp only [hp] at h ⊢; exact hN _ _ _ h
  · cases hp : ast e st M with
    | none => simp only [hp] at h
    | some q => simp only [hp] at h ⊢; obtain ⟨j, h1, h2, h3, h4⟩ := h; exact ⟨j, h1, h2, h3, hN _ _ _ h4⟩
  · exact h.elim
theorem Go.step {code : List En} {t : Nat} {rest : List En} (hC : ∀ k as M (P P' : Option Value → Mm → Prop), (∀ r M', P r M' → P' r M') → Cl k as M P → Cl k as M P') (hs : sfx code t = e :: rest) (h : stp Cl mc ret nmax Q (Go Cl mc ret nmax Q code) e (Go Cl mc ret nmax Q code (e.1 + e.2.2.1)) ls st M) : Go Cl mc ret nmax Q code t ls st M :=
  fun P hP => hP t e rest hs ls st M (stp_mono hC (fun _ _ z => z) (fun _ _ _ _ z => z P hP) (fun _ _ _ z => z P hP) h)
theorem Go.mono {code : List En} {pc : Nat} (hC : ∀ k as M (P P' : Option Value → Mm → Prop), (∀ r M', P r M' → P' r M') → Cl k as M P → Cl' k as M P') (hQ : ∀ r M, Q r M → Q' r M) (h : Go Cl mc ret nmax Q code pc ls st M) : Go Cl' mc ret nmax Q' code pc ls st M :=
  fun P hP => h P (fun t e rest hs ls st M z => hP t e rest hs ls st M (stp_mono hC hQ (fun _ _ _ _ q => q) (fun _ _ _ q => q) z))
/-- each instruction stands right behind the one ahead of it -/
def linked : List En → Bool
  | [] => true
  | [_] => true
  | a :: b :: l => Nat.beq (a.1 + a.2.2.1) b.1 && linked (b :: l)
theorem sfx_head : ∀ {code : List En} {t : Nat} {e : En} {rest : List En}, sfx code t = e :: rest → e.1 = t
  | [], _, _, _, h => by cases h
  | a :: l, t, e, rest, h => by
    unfold sfx at h
    split at h
    · rename_i hb
      cases h
      exact Nat.eq_of_beq_eq_true hb
    · exact sfx_head h
/-- the code goes up: no pc twice -/
def asc : List En → Bool
  | [] => true
  | [_] => true
  | a :: b :: l => Nat.blt a.1 b.1 && asc (b :: l)
theorem asc_lt : ∀ {l : List En} {a : En}, asc (a :: l) = true → ∀ x ∈ l, a.1 < x.1
  | [], _, _, _, h => by cases h
  | b :: l, a, h, x, hx => by
    unfold asc at h
    simp only [Bool.and_eq_true] at h
    have h1 : a.1 < b.1 := Nat.le_of_ble_eq_true h.1
    rcases List.mem_cons.mp hx with rfl | hx
    · exact h1
    · exact Nat.lt_trans h1 (asc_lt h.2 x hx)
theorem asc_tail {l : List En} {a : En} (h : asc (a :: l) = true) : asc l = true := by
  cases l with
  | nil => rfl
  | cons b l => unfold asc at h; simp only [Bool.and_eq_true] at h; exact h.2
/-- the rest of a suffix is the suffix at its own head -/
theorem sfx_next : ∀ {code : List En}, asc code = true → ∀ {t : Nat} {e e2 : En} {rest : List En}, sfx code t = e :: e2 :: rest → sfx code e2.1 = e2 :: rest
  | [], _, _, _, _, _, h => by cases h
  | a :: l, ha, t, e, e2, rest, h => by
    have hlt := asc_lt ha
    have step : ∀ {x : En}, x ∈ l → sfx (a :: l) x.1 = sfx l x.1 := fun {x} hx => by
      have h0 : a.1 ≠ x.1 := Nat.ne_of_lt (hlt x hx)
      have : Nat.beq a.1 x.1 = false := by
        cases hb : Nat.beq a.1 x.1 with
        | false => rfl
        | true => exact absurd (Nat.eq_of_beq_eq_true hb) h0
      rw [sfx, this]
    unfold sfx at h
    split at h
    · cases h
      rw [step List.mem_cons_self, sfx]
      have : Nat.beq e2.1 e2.1 = true := Nat.beq_refl _
      rw [this]
    · have h2 := sfx_next (asc_tail ha) h
      have hm : e2 ∈ l := by
        have : ∀ {c : List En} {t : Nat} {r : List En}, sfx c t = r → ∀ x ∈ r, x ∈ c := by
          intro c
          induction c with
          | nil => intro t r hr x hx; cases hr; cases hx
          | cons b c ih =>
            intro t r hr x hx
            unfold sfx at hr
            split at hr
            · rw [← hr] at hx; exact hx
            · exact List.mem_cons_of_mem _ (ih hr x hx)
        exact this h e2 (by simp)
      rw [step hm]
      exact h2
end
/-- the rule: run on to the next loop's head -/
theorem go {Cl : Nat → List Value → Mm → (Option Value → Mm → Prop) → Prop} {mc : Nat → Nat} {ret nmax : Nat} {Q : Option Value → Mm → Prop} {code : List En} {pc : Nat} {ls st : List Value} {M : Mm} (hC : ∀ k as M (P P' : Option Value → Mm → Prop), (∀ r M', P r M' → P' r M') → Cl k as M P → Cl k as M P') (ha : asc code = true) (hl : linked code = true)
    (n : Nat) (h : ∀ (K : Nat → List Value → List Value → Mm → Prop) (Kl : Nat → List Value → Mm → (Option Value → Mm → Prop) → Prop), (∀ t ls st M, Go Cl mc ret nmax Q code t ls st M → K t ls st M) → (∀ k as M P, Cl k as M P → Kl k as M P) →
      match sfx code pc with
      | e :: rest => stp Kl mc ret nmax Q (fun t => Gn Kl mc ret nmax Q K code n (sfx code t)) e (Gn Kl mc ret nmax Q K code n rest) ls st M
      | [] => False) : Go Cl mc ret nmax Q code pc ls st M := by
  have key : ∀ (n : Nat) (t : Nat) (e : En) (rest : List En) (ls st : List Value) (M : Mm), sfx code t = e :: rest → Gn Cl mc ret nmax Q (Go Cl mc ret nmax Q code) code n (e :: rest) ls st M → Go Cl mc ret nmax Q code t ls st M := by
    intro n
    induction n with
    | zero => intro t e rest ls st M _ h; exact h.elim
    | succ n ih =>
      intro t e rest ls st M hs h
      unfold Gn at h
      split at h
      · rw [sfx_head hs] at h; exact h
      · refine Go.step hC hs (stp_mono hC (fun _ _ z => z) (fun t ls st M z => ?_) (fun ls st M z => ?_) h)
        · cases hs2 : sfx code t with
          | nil => rw [hs2] at z; cases n <;> exact z.elim
          | cons e2 r2 => rw [hs2] at z; exact ih t e2 r2 ls st M hs2 z
        · cases rest with
          | nil => cases n <;> exact z.elim
          | cons e2 r2 =>
            have hs2 := sfx_next ha hs
            have hlk : e.1 + e.2.2.1 = e2.1 := by
              have : ∀ {c : List En} {t : Nat} {r : List En}, linked c = true → sfx c t = e :: e2 :: r → e.1 + e.2.2.1 = e2.1 := by
                intro c
                induction c with
                | nil => intro t r _ hr; cases hr
                | cons b c ihc =>
                  intro t r hlc hr
                  unfold sfx at hr
                  split at hr
                  · cases hr
                    unfold linked at hlc
                    simp only [Bool.and_eq_true] at hlc
                    exact Nat.eq_of_beq_eq_true hlc.1
                  · refine ihc ?_ hr
                    cases c with
                    | nil => rfl
                    | cons b2 c => unfold linked at hlc; simp only [Bool.and_eq_true] at hlc; exact hlc.2
              exact this hl hs
            rw [hlk]
            exact ih e2.1 e2 r2 ls st M hs2 z
  have h1 := h (Go Cl mc ret nmax Q code) Cl (fun _ _ _ _ z => z) (fun _ _ _ _ z => z)
  cases hs : sfx code pc with
  | nil => rw [hs] at h1; exact h1.elim
  | cons e rest =>
    rw [hs] at h1
    refine Go.step hC hs (stp_mono hC (fun _ _ z => z) (fun t ls st M z => ?_) (fun ls st M z => ?_) h1)
    · cases hs2 : sfx code t with
      | nil => rw [hs2] at z; cases n <;> exact z.elim
      | cons e2 r2 => rw [hs2] at z; exact key n t e2 r2 ls st M hs2 z
    · cases rest with
      | nil => cases n <;> exact z.elim
      | cons e2 r2 =>
        have hs2 := sfx_next ha hs
        have hlk : e.1 + e.2.2.1 = e2.1 := by
          have : ∀ {c : List En} {t : Nat} {r : List En}, linked c = true → sfx c t = e :: e2 :: r → e.1 + e.2.2.1 = e2.1 := by
            intro c
            induction c with
            | nil => intro t r _ hr; cases hr
            | cons b c ihc =>
              intro t r hlc hr
              unfold sfx at hr
              split at hr
              · cases hr
                unfold linked at hlc
                simp only [Bool.and_eq_true] at hlc
                exact Nat.eq_of_beq_eq_true hlc.1
              · refine ihc ?_ hr
                cases c with
                | nil => rfl
                | cons b2 c => unfold linked at hlc; simp only [Bool.and_eq_true] at hlc; exact hlc.2
          exact this hl hs
        rw [hlk]
        exact key n e2.1 e2 r2 ls st M hs2 z
end
section
def m_X0_seenFrom : List En := [
  (0, .aload_n 0, 1, false, 0, (0, 0, 0, 0), .null, []),
  (1, .getfield 15, 3, false, 0, (0, 3, 2, 1), .null, []),
  (4, .iload_n 1, 1, false, 0, (1, 0, 0, 0), .null, []),
  (5, .iaload, 1, false, 5, (0, 0, 0, 0), .null, []),
  (6, .bipush (35), 2, false, 0, (0, 0, 0, 0), .int (nI 35), []),
  (8, .if_icmp .ne (11), 3, false, 2, (19, 0, 0, 0), .null, []),
  (11, .iload_n 2, 1, false, 0, (2, 0, 0, 0), .null, []),
  (12, .iload_n 2, 1, false, 0, (2, 0, 0, 0), .null, []),
  (13, .iconst (3), 1, false, 0, (0, 0, 0, 0), .int (nI 3), []),
  (14, .ishr, 1, false, 0, (0, 0, 0, 0), .null, []),
  (15, .iconst (-1), 1, false, 0, (0, 0, 0, 0), .int (-1), []),
  (16, .ixor, 1, false, 0, (0, 0, 0, 0), .null, []),
  (17, .iand, 1, false, 0, (0, 0, 0, 0), .null, []),
  (18, .ireturn, 1, false, 9, (0, 0, 0, 0), .null, []),
  (19, .aload_n 0, 1, false, 0, (0, 0, 0, 0), .null, []),
  (20, .getfield 15, 3, false, 0, (0, 3, 2, 1), .null, []),
  (23, .iload_n 1, 1, false, 0, (1, 0, 0, 0), .null, []),
  (24, .iaload, 1, false, 5, (0, 0, 0, 0), .null, []),
  (25, .bipush (36), 2, false, 0, (0, 0, 0, 0), .int (nI 36), []),
  (27, .if_icmp .ne (13), 3, false, 2, (40, 0, 0, 0), .null, []),
  (30, .iload_n 2, 1, false, 0, (2, 0, 0, 0), .null, []),
  (31, .iload_n 2, 1, false, 0, (2, 0, 0, 0), .null, []),
  (32, .iconst (3), 1, false, 0, (0, 0, 0, 0), .int (nI 3), []),
  (33, .ishl, 1, false, 0, (0, 0, 0, 0), .null, []),
  (34, .iconst (-1), 1, false, 0, (0, 0, 0, 0), .int (-1), []),
  (35, .ixor, 1, false, 0, (0, 0, 0, 0), .null, []),
  (36, .iand, 1, false, 0, (0, 0, 0, 0), .null, []),
  (37, .goto (4), 3, false, 3, (41, 0, 0, 0), .null, []),
  (40, .iload_n 2, 1, false, 0, (2, 0, 0, 0), .null, []),
  (41, .ireturn, 1, false, 9, (0, 0, 0, 0), .null, [])]
def m_X0_readFrom : List En := [
  (0, .iload_n 2, 1, false, 0, (2, 0, 0, 0), .null, []),
  (1, .ifCond .ne (5), 3, false, 2, (6, 0, 0, 0), .null, []),
  (4, .iconst (0), 1, false, 0, (0, 0, 0, 0), .int (nI 0), []),
  (5, .ireturn, 1, false, 9, (0, 0, 0, 0), .null, []),
  (6, .aload_n 0, 1, false, 0, (0, 0, 0, 0), .null, []),
  (7, .iload_n 1, 1, false, 0, (1, 0, 0, 0), .null, []),
  (8, .iload_n 2, 1, false, 0, (2, 0, 0, 0), .null, []),
  (9, .invokevirtual 34, 3, false, 8, (6, 3, 0, 0), .null, []),
  (12, .istore 4, 2, false, 1, (4, 0, 0, 0), .null, []),
  (14, .iconst (0), 1, false, 0, (0, 0, 0, 0), .int (nI 0), []),
  (15, .istore 5, 2, false, 1, (5, 0, 0, 0), .null, []),
  (17, .iload 5, 2, true, 0, (5, 0, 0, 0), .null, []),
  (19, .aload_n 3, 1, false, 0, (3, 0, 0, 0), .null, []),
  (20, .getfield 38, 3, false, 0, (6, 0, 0, 0), .null, []),
  (23, .if_icmp .ge (34), 3, false, 2, (57, 0, 0, 0), .null, []),
  (26, .aload_n 0, 1, false, 0, (0, 0, 0, 0), .null, []),
  (27, .iload_n 1, 1, false, 0, (1, 0, 0, 0), .null, []),
  (28, .aload_n 3, 1, false, 0, (3, 0, 0, 0), .null, []),
  (29, .getfield 43, 3, false, 0, (6, 3, 2, 1), .null, []),
  (32, .iload 5, 2, false, 0, (5, 0, 0, 0), .null, []),
  (34, .iaload, 1, false, 5, (0, 0, 0, 0), .null, []),
  (35, .invokevirtual 34, 3, false, 8, (6, 3, 0, 0), .null, []),
  (38, .iload 4, 2, false, 0, (4, 0, 0, 0), .null, []),
  (40, .if_icmp .ne (11), 3, false, 2, (51, 0, 0, 0), .null, []),
  (43, .aload_n 3, 1, false, 0, (3, 0, 0, 0), .null, []),
  (44, .getfield 46, 3, false, 0, (6, 2, 2, 1), .null, []),
  (47, .iload 5, 2, false, 0, (5, 0, 0, 0), .null, []),
  (49, .iaload, 1, false, 5, (0, 0, 0, 0), .null, []),
  (50, .ireturn, 1, false, 9, (0, 0, 0, 0), .null, []),
  (51, .iinc 5 (1), 3, false, 1, (5, 0, 0, 0), .int (nI 1), []),
  (54, .goto (-37), 3, false, 3, (17, 0, 0, 0), .null, []),
  (57, .iconst (0), 1, false, 0, (0, 0, 0, 0), .int (nI 0), []),
  (58, .ireturn, 1, false, 9, (0, 0, 0, 0), .null, [])]

def seenF (sg s : Int32) : Int32 := if sg = nI 35 then s &&& ((s >>> 3) ^^^ -1) else if sg = nI 36 then s &&& ((s <<< 3) ^^^ -1) else s
set_option maxRecDepth 100000 in
theorem t_seenFrom {Cl : Nat → List Value → Mm → (Option Value → Mm → Prop) → Prop} {mc : Nat → Nat} {nmax : Nat} {Q : Option Value → Mm → Prop} (hC : ∀ k as M (P P' : Option Value → Mm → Prop), (∀ r M', P r M' → P' r M') → Cl k as M P → Cl k as M P')
    (mi : Nat → Nat → Int32) (ml : Nat → Nat → Int64) (rd : Option Nat) (h : Nat) (hh : h < 3) (s : Int32) (hQ : Q (some (.int (seenF (mi 22 h) s))) (mi, ml, R0 rd, 136)) :
    Go Cl mc 1 nmax Q m_X0_seenFrom 0 (pad 3 (en0 [.ref 20, .int (nI h), .int s])) [] (mi, ml, R0 rd, 136) := by
  refine go hC rfl rfl 100 (fun K Kl hK hKl => ?_)
  refine ⟨h, hh, rfl, ?_⟩
  refine ⟨fun h1 => ?_, fun h1 => ?_⟩
  · refine ⟨h, hh, rfl, ?_⟩
    refine ⟨fun h2 => ?_, fun h2 => ?_⟩
    · have e : seenF (mi 22 h) s = s := by unfold seenF; rw [if_neg h1, if_neg h2]
      rw [e] at hQ
      exact hQ
    · have h2 : mi 22 h = nI 36 := Classical.not_not.mp h2
      have e : seenF (mi 22 h) s = s &&& ((s <<< 3) ^^^ -1) := by unfold seenF; rw [if_neg h1, if_pos h2]
      rw [e] at hQ
      exact hQ
  · have h1 : mi 22 h = nI 35 := Classical.not_not.mp h1
    have e : seenF (mi 22 h) s = s &&& ((s >>> 3) ^^^ -1) := by unfold seenF; rw [if_pos h1]
    rw [e] at hQ
    exact hQ
end
