section
-- ===== PART A: goes FIRST, ahead of the names: the tables' words, and 'selects' of the private methods out of them =====
/-- a private method of a class that the tables say can be made, by its rows of tables_1 -/
def lw_okq (q : MethodName × Nat) : Prop := (q.1.cls ≠ "java/lang/invoke/MethodHandle" ∧ q.1.cls ≠ "java/lang/invoke/VarHandle") ∧ Cond.instantiable q.1.cls q.2 ∈ tables_1 ∧ Cond.privateMethod q.1 ∈ tables_1 ∧ Cond.instanceMethod q.1 ∈ tables_1
theorem lw_p0 : lw_okq (⟨"EmptyHat", "refuse", "(I)I"⟩, 17) := ⟨⟨by decide +kernel, by decide +kernel⟩, List.mem_of_getElem? (i := 23) (by decide +kernel), List.mem_of_getElem? (i := 589) (by decide +kernel), List.mem_of_getElem? (i := 590) (by decide +kernel)⟩
theorem lw_p1 : lw_okq (⟨"EmptyHat", "refuses", "(I)Z"⟩, 17) := ⟨⟨by decide +kernel, by decide +kernel⟩, List.mem_of_getElem? (i := 23) (by decide +kernel), List.mem_of_getElem? (i := 601) (by decide +kernel), List.mem_of_getElem? (i := 602) (by decide +kernel)⟩
theorem lw_p2 : lw_okq (⟨"EmptyHat$Text", "readWord", "()V"⟩, 11) := ⟨⟨by decide +kernel, by decide +kernel⟩, List.mem_of_getElem? (i := 31) (by decide +kernel), List.mem_of_getElem? (i := 636) (by decide +kernel), List.mem_of_getElem? (i := 637) (by decide +kernel)⟩
theorem lw_p3 : lw_okq (⟨"EmptyHat$Text", "readDigits", "()V"⟩, 11) := ⟨⟨by decide +kernel, by decide +kernel⟩, List.mem_of_getElem? (i := 31) (by decide +kernel), List.mem_of_getElem? (i := 640) (by decide +kernel), List.mem_of_getElem? (i := 641) (by decide +kernel)⟩
theorem lw_p4 : lw_okq (⟨"EmptyHat$CrownReader", "treasury", "()Z"⟩, 5) := ⟨⟨by decide +kernel, by decide +kernel⟩, List.mem_of_getElem? (i := 246) (by decide +kernel), List.mem_of_getElem? (i := 644) (by decide +kernel), List.mem_of_getElem? (i := 645) (by decide +kernel)⟩
theorem lw_p5 : lw_okq (⟨"EmptyHat$CrownReader", "statement", "()Z"⟩, 5) := ⟨⟨by decide +kernel, by decide +kernel⟩, List.mem_of_getElem? (i := 246) (by decide +kernel), List.mem_of_getElem? (i := 672) (by decide +kernel), List.mem_of_getElem? (i := 673) (by decide +kernel)⟩
theorem lw_p6 : lw_okq (⟨"EmptyHat$CrownReader", "oneMore", "(II)Z"⟩, 5) := ⟨⟨by decide +kernel, by decide +kernel⟩, List.mem_of_getElem? (i := 246) (by decide +kernel), List.mem_of_getElem? (i := 677) (by decide +kernel), List.mem_of_getElem? (i := 678) (by decide +kernel)⟩
theorem lw_p7 : lw_okq (⟨"EmptyHat$CrownReader", "newProvince", "()Z"⟩, 5) := ⟨⟨by decide +kernel, by decide +kernel⟩, List.mem_of_getElem? (i := 246) (by decide +kernel), List.mem_of_getElem? (i := 690) (by decide +kernel), List.mem_of_getElem? (i := 691) (by decide +kernel)⟩
theorem lw_p8 : lw_okq (⟨"EmptyHat$CrownReader", "newTrick", "()Z"⟩, 5) := ⟨⟨by decide +kernel, by decide +kernel⟩, List.mem_of_getElem? (i := 246) (by decide +kernel), List.mem_of_getElem? (i := 694) (by decide +kernel), List.mem_of_getElem? (i := 695) (by decide +kernel)⟩
theorem lw_p9 : lw_okq (⟨"EmptyHat$CrownReader", "newWatcher", "()Z"⟩, 5) := ⟨⟨by decide +kernel, by decide +kernel⟩, List.mem_of_getElem? (i := 246) (by decide +kernel), List.mem_of_getElem? (i := 698) (by decide +kernel), List.mem_of_getElem? (i := 699) (by decide +kernel)⟩
theorem lw_p10 : lw_okq (⟨"EmptyHat$CrownReader", "onlyOne", "()Z"⟩, 5) := ⟨⟨by decide +kernel, by decide +kernel⟩, List.mem_of_getElem? (i := 246) (by decide +kernel), List.mem_of_getElem? (i := 702) (by decide +kernel), List.mem_of_getElem? (i := 703) (by decide +kernel)⟩
theorem lw_p11 : lw_okq (⟨"EmptyHat$Reader", "aim", "(LEmptyHat$Formula;I)V"⟩, 3) := ⟨⟨by decide +kernel, by decide +kernel⟩, List.mem_of_getElem? (i := 252) (by decide +kernel), List.mem_of_getElem? (i := 711) (by decide +kernel), List.mem_of_getElem? (i := 712) (by decide +kernel)⟩
theorem lw_p12 : lw_okq (⟨"EmptyHat$Reader", "sum", "(I)Z"⟩, 3) := ⟨⟨by decide +kernel, by decide +kernel⟩, List.mem_of_getElem? (i := 252) (by decide +kernel), List.mem_of_getElem? (i := 716) (by decide +kernel), List.mem_of_getElem? (i := 717) (by decide +kernel)⟩
theorem lw_p13 : lw_okq (⟨"EmptyHat$Reader", "product", "(I)Z"⟩, 3) := ⟨⟨by decide +kernel, by decide +kernel⟩, List.mem_of_getElem? (i := 252) (by decide +kernel), List.mem_of_getElem? (i := 720) (by decide +kernel), List.mem_of_getElem? (i := 721) (by decide +kernel)⟩
theorem lw_p14 : lw_okq (⟨"EmptyHat$Reader", "part", "(I)Z"⟩, 3) := ⟨⟨by decide +kernel, by decide +kernel⟩, List.mem_of_getElem? (i := 252) (by decide +kernel), List.mem_of_getElem? (i := 724) (by decide +kernel), List.mem_of_getElem? (i := 725) (by decide +kernel)⟩
theorem lw_p15 : lw_okq (⟨"EmptyHat$Reader", "opens", "(I)Z"⟩, 3) := ⟨⟨by decide +kernel, by decide +kernel⟩, List.mem_of_getElem? (i := 252) (by decide +kernel), List.mem_of_getElem? (i := 731) (by decide +kernel), List.mem_of_getElem? (i := 732) (by decide +kernel)⟩
def lw_privs_1 : List (MethodName × Nat) := [(⟨"EmptyHat", "refuse", "(I)I"⟩, 17), (⟨"EmptyHat", "refuses", "(I)Z"⟩, 17), (⟨"EmptyHat$Text", "readWord", "()V"⟩, 11), (⟨"EmptyHat$Text", "readDigits", "()V"⟩, 11), (⟨"EmptyHat$CrownReader", "treasury", "()Z"⟩, 5), (⟨"EmptyHat$CrownReader", "statement", "()Z"⟩, 5), (⟨"EmptyHat$CrownReader", "oneMore", "(II)Z"⟩, 5), (⟨"EmptyHat$CrownReader", "newProvince", "()Z"⟩, 5), (⟨"EmptyHat$CrownReader", "newTrick", "()Z"⟩, 5), (⟨"EmptyHat$CrownReader", "newWatcher", "()Z"⟩, 5), (⟨"EmptyHat$CrownReader", "onlyOne", "()Z"⟩, 5), (⟨"EmptyHat$Reader", "aim", "(LEmptyHat$Formula;I)V"⟩, 3), (⟨"EmptyHat$Reader", "sum", "(I)Z"⟩, 3), (⟨"EmptyHat$Reader", "product", "(I)Z"⟩, 3), (⟨"EmptyHat$Reader", "part", "(I)Z"⟩, 3), (⟨"EmptyHat$Reader", "opens", "(I)Z"⟩, 3)]
theorem lw_r1 : ∀ q ∈ lw_privs_1, lw_okq q := List.forall_mem_cons.mpr ⟨lw_p0, List.forall_mem_cons.mpr ⟨lw_p1, List.forall_mem_cons.mpr ⟨lw_p2, List.forall_mem_cons.mpr ⟨lw_p3, List.forall_mem_cons.mpr ⟨lw_p4, List.forall_mem_cons.mpr ⟨lw_p5, List.forall_mem_cons.mpr ⟨lw_p6, List.forall_mem_cons.mpr ⟨lw_p7, List.forall_mem_cons.mpr ⟨lw_p8, List.forall_mem_cons.mpr ⟨lw_p9, List.forall_mem_cons.mpr ⟨lw_p10, List.forall_mem_cons.mpr ⟨lw_p11, List.forall_mem_cons.mpr ⟨lw_p12, List.forall_mem_cons.mpr ⟨lw_p13, List.forall_mem_cons.mpr ⟨lw_p14, List.forall_mem_cons.mpr ⟨lw_p15, fun _ h => absurd h List.not_mem_nil⟩⟩⟩⟩⟩⟩⟩⟩⟩⟩⟩⟩⟩⟩⟩⟩
theorem lw_p16 : lw_okq (⟨"EmptyHat$Reader", "oneOfTwo", "(I)Z"⟩, 3) := ⟨⟨by decide +kernel, by decide +kernel⟩, List.mem_of_getElem? (i := 252) (by decide +kernel), List.mem_of_getElem? (i := 739) (by decide +kernel), List.mem_of_getElem? (i := 740) (by decide +kernel)⟩
theorem lw_p17 : lw_okq (⟨"EmptyHat$Reader", "isPart", "()Z"⟩, 3) := ⟨⟨by decide +kernel, by decide +kernel⟩, List.mem_of_getElem? (i := 252) (by decide +kernel), List.mem_of_getElem? (i := 743) (by decide +kernel), List.mem_of_getElem? (i := 744) (by decide +kernel)⟩
theorem lw_p18 : lw_okq (⟨"EmptyHat$CrownReader", "beliefAtFirst", "()Z"⟩, 5) := ⟨⟨by decide +kernel, by decide +kernel⟩, List.mem_of_getElem? (i := 246) (by decide +kernel), List.mem_of_getElem? (i := 748) (by decide +kernel), List.mem_of_getElem? (i := 749) (by decide +kernel)⟩
theorem lw_p19 : lw_okq (⟨"EmptyHat$CrownReader", "boysOfHundred", "()Z"⟩, 5) := ⟨⟨by decide +kernel, by decide +kernel⟩, List.mem_of_getElem? (i := 246) (by decide +kernel), List.mem_of_getElem? (i := 752) (by decide +kernel), List.mem_of_getElem? (i := 753) (by decide +kernel)⟩
theorem lw_p20 : lw_okq (⟨"EmptyHat", "forgetPast", "()V"⟩, 17) := ⟨⟨by decide +kernel, by decide +kernel⟩, List.mem_of_getElem? (i := 23) (by decide +kernel), List.mem_of_getElem? (i := 768) (by decide +kernel), List.mem_of_getElem? (i := 769) (by decide +kernel)⟩
theorem lw_p21 : lw_okq (⟨"EmptyHat$Stage", "sightOfShow", "(I)I"⟩, 8) := ⟨⟨by decide +kernel, by decide +kernel⟩, List.mem_of_getElem? (i := 311) (by decide +kernel), List.mem_of_getElem? (i := 903) (by decide +kernel), List.mem_of_getElem? (i := 904) (by decide +kernel)⟩
theorem lw_p22 : lw_okq (⟨"EmptyHat$Stage", "isBetter", "(III)Z"⟩, 8) := ⟨⟨by decide +kernel, by decide +kernel⟩, List.mem_of_getElem? (i := 311) (by decide +kernel), List.mem_of_getElem? (i := 907) (by decide +kernel), List.mem_of_getElem? (i := 908) (by decide +kernel)⟩
theorem lw_p23 : lw_okq (⟨"EmptyHat", "canGive", "(I)Z"⟩, 17) := ⟨⟨by decide +kernel, by decide +kernel⟩, List.mem_of_getElem? (i := 23) (by decide +kernel), List.mem_of_getElem? (i := 916) (by decide +kernel), List.mem_of_getElem? (i := 917) (by decide +kernel)⟩
theorem lw_p24 : lw_okq (⟨"EmptyHat$Ahead", "note", "(I)V"⟩, 16) := ⟨⟨by decide +kernel, by decide +kernel⟩, List.mem_of_getElem? (i := 351) (by decide +kernel), List.mem_of_getElem? (i := 931) (by decide +kernel), List.mem_of_getElem? (i := 932) (by decide +kernel)⟩
theorem lw_p25 : lw_okq (⟨"EmptyHat$Stage", "loseBelief", "(LEmptyHat$State;I)V"⟩, 8) := ⟨⟨by decide +kernel, by decide +kernel⟩, List.mem_of_getElem? (i := 311) (by decide +kernel), List.mem_of_getElem? (i := 948) (by decide +kernel), List.mem_of_getElem? (i := 949) (by decide +kernel)⟩
theorem lw_p26 : lw_okq (⟨"EmptyHat$Stage", "pay", "(LEmptyHat$State;I)V"⟩, 8) := ⟨⟨by decide +kernel, by decide +kernel⟩, List.mem_of_getElem? (i := 311) (by decide +kernel), List.mem_of_getElem? (i := 956) (by decide +kernel), List.mem_of_getElem? (i := 957) (by decide +kernel)⟩
theorem lw_p27 : lw_okq (⟨"EmptyHat$Ahead", "lookAhead", "(I)V"⟩, 16) := ⟨⟨by decide +kernel, by decide +kernel⟩, List.mem_of_getElem? (i := 351) (by decide +kernel), List.mem_of_getElem? (i := 975) (by decide +kernel), List.mem_of_getElem? (i := 976) (by decide +kernel)⟩
theorem lw_p28 : lw_okq (⟨"EmptyHat$Ahead", "pairWith", "(I)V"⟩, 16) := ⟨⟨by decide +kernel, by decide +kernel⟩, List.mem_of_getElem? (i := 351) (by decide +kernel), List.mem_of_getElem? (i := 985) (by decide +kernel), List.mem_of_getElem? (i := 986) (by decide +kernel)⟩
theorem lw_p29 : lw_okq (⟨"EmptyHat", "findCounted", "()V"⟩, 17) := ⟨⟨by decide +kernel, by decide +kernel⟩, List.mem_of_getElem? (i := 23) (by decide +kernel), List.mem_of_getElem? (i := 1014) (by decide +kernel), List.mem_of_getElem? (i := 1015) (by decide +kernel)⟩
theorem lw_p30 : lw_okq (⟨"EmptyHat$Counted", "isSo", "()Z"⟩, 9) := ⟨⟨by decide +kernel, by decide +kernel⟩, List.mem_of_getElem? (i := 473) (by decide +kernel), List.mem_of_getElem? (i := 1024) (by decide +kernel), List.mem_of_getElem? (i := 1025) (by decide +kernel)⟩
theorem lw_p31 : lw_okq (⟨"EmptyHat$Counted", "addFitting", "(I)V"⟩, 9) := ⟨⟨by decide +kernel, by decide +kernel⟩, List.mem_of_getElem? (i := 473) (by decide +kernel), List.mem_of_getElem? (i := 1028) (by decide +kernel), List.mem_of_getElem? (i := 1029) (by decide +kernel)⟩
def lw_privs_2 : List (MethodName × Nat) := [(⟨"EmptyHat$Reader", "oneOfTwo", "(I)Z"⟩, 3), (⟨"EmptyHat$Reader", "isPart", "()Z"⟩, 3), (⟨"EmptyHat$CrownReader", "beliefAtFirst", "()Z"⟩, 5), (⟨"EmptyHat$CrownReader", "boysOfHundred", "()Z"⟩, 5), (⟨"EmptyHat", "forgetPast", "()V"⟩, 17), (⟨"EmptyHat$Stage", "sightOfShow", "(I)I"⟩, 8), (⟨"EmptyHat$Stage", "isBetter", "(III)Z"⟩, 8), (⟨"EmptyHat", "canGive", "(I)Z"⟩, 17), (⟨"EmptyHat$Ahead", "note", "(I)V"⟩, 16), (⟨"EmptyHat$Stage", "loseBelief", "(LEmptyHat$State;I)V"⟩, 8), (⟨"EmptyHat$Stage", "pay", "(LEmptyHat$State;I)V"⟩, 8), (⟨"EmptyHat$Ahead", "lookAhead", "(I)V"⟩, 16), (⟨"EmptyHat$Ahead", "pairWith", "(I)V"⟩, 16), (⟨"EmptyHat", "findCounted", "()V"⟩, 17), (⟨"EmptyHat$Counted", "isSo", "()Z"⟩, 9), (⟨"EmptyHat$Counted", "addFitting", "(I)V"⟩, 9)]
theorem lw_r2 : ∀ q ∈ lw_privs_2, lw_okq q := List.forall_mem_cons.mpr ⟨lw_p16, List.forall_mem_cons.mpr ⟨lw_p17, List.forall_mem_cons.mpr ⟨lw_p18, List.forall_mem_cons.mpr ⟨lw_p19, List.forall_mem_cons.mpr ⟨lw_p20, List.forall_mem_cons.mpr ⟨lw_p21, List.forall_mem_cons.mpr ⟨lw_p22, List.forall_mem_cons.mpr ⟨lw_p23, List.forall_mem_cons.mpr ⟨lw_p24, List.forall_mem_cons.mpr ⟨lw_p25, List.forall_mem_cons.mpr ⟨lw_p26, List.forall_mem_cons.mpr ⟨lw_p27, List.forall_mem_cons.mpr ⟨lw_p28, List.forall_mem_cons.mpr ⟨lw_p29, List.forall_mem_cons.mpr ⟨lw_p30, List.forall_mem_cons.mpr ⟨lw_p31, fun _ h => absurd h List.not_mem_nil⟩⟩⟩⟩⟩⟩⟩⟩⟩⟩⟩⟩⟩⟩⟩⟩
theorem lw_p32 : lw_okq (⟨"EmptyHat$Counted", "mostLeft", "([I)I"⟩, 9) := ⟨⟨by decide +kernel, by decide +kernel⟩, List.mem_of_getElem? (i := 473) (by decide +kernel), List.mem_of_getElem? (i := 1048) (by decide +kernel), List.mem_of_getElem? (i := 1049) (by decide +kernel)⟩
theorem lw_p33 : lw_okq (⟨"EmptyHat$Stage", "seenByAny", "(I)I"⟩, 8) := ⟨⟨by decide +kernel, by decide +kernel⟩, List.mem_of_getElem? (i := 311) (by decide +kernel), List.mem_of_getElem? (i := 1061) (by decide +kernel), List.mem_of_getElem? (i := 1062) (by decide +kernel)⟩
theorem lw_p34 : lw_okq (⟨"EmptyHat", "remember", "()V"⟩, 17) := ⟨⟨by decide +kernel, by decide +kernel⟩, List.mem_of_getElem? (i := 23) (by decide +kernel), List.mem_of_getElem? (i := 1073) (by decide +kernel), List.mem_of_getElem? (i := 1074) (by decide +kernel)⟩
theorem lw_p35 : lw_okq (⟨"EmptyHat", "canPass", "(I)Z"⟩, 17) := ⟨⟨by decide +kernel, by decide +kernel⟩, List.mem_of_getElem? (i := 23) (by decide +kernel), List.mem_of_getElem? (i := 1090) (by decide +kernel), List.mem_of_getElem? (i := 1091) (by decide +kernel)⟩
theorem lw_p36 : lw_okq (⟨"EmptyHat", "boyTells", "()Z"⟩, 17) := ⟨⟨by decide +kernel, by decide +kernel⟩, List.mem_of_getElem? (i := 23) (by decide +kernel), List.mem_of_getElem? (i := 1099) (by decide +kernel), List.mem_of_getElem? (i := 1100) (by decide +kernel)⟩
theorem lw_p37 : lw_okq (⟨"EmptyHat", "draw", "(I)I"⟩, 17) := ⟨⟨by decide +kernel, by decide +kernel⟩, List.mem_of_getElem? (i := 23) (by decide +kernel), List.mem_of_getElem? (i := 1103) (by decide +kernel), List.mem_of_getElem? (i := 1104) (by decide +kernel)⟩
theorem lw_p38 : lw_okq (⟨"EmptyHat$Reader", "test", "(I)Z"⟩, 3) := ⟨⟨by decide +kernel, by decide +kernel⟩, List.mem_of_getElem? (i := 252) (by decide +kernel), List.mem_of_getElem? (i := 1136) (by decide +kernel), List.mem_of_getElem? (i := 1137) (by decide +kernel)⟩
theorem lw_p39 : lw_okq (⟨"EmptyHat$Reader", "facts", "(I)Z"⟩, 3) := ⟨⟨by decide +kernel, by decide +kernel⟩, List.mem_of_getElem? (i := 252) (by decide +kernel), List.mem_of_getElem? (i := 1140) (by decide +kernel), List.mem_of_getElem? (i := 1141) (by decide +kernel)⟩
theorem lw_p40 : lw_okq (⟨"EmptyHat$Reader", "fact", "(I)Z"⟩, 3) := ⟨⟨by decide +kernel, by decide +kernel⟩, List.mem_of_getElem? (i := 252) (by decide +kernel), List.mem_of_getElem? (i := 1144) (by decide +kernel), List.mem_of_getElem? (i := 1145) (by decide +kernel)⟩
theorem lw_p41 : lw_okq (⟨"EmptyHat$Reader", "compared", "(I)Z"⟩, 3) := ⟨⟨by decide +kernel, by decide +kernel⟩, List.mem_of_getElem? (i := 252) (by decide +kernel), List.mem_of_getElem? (i := 1148) (by decide +kernel), List.mem_of_getElem? (i := 1149) (by decide +kernel)⟩
theorem lw_p42 : lw_okq (⟨"EmptyHat$Question", "with", "(JII)J"⟩, 5) := ⟨⟨by decide +kernel, by decide +kernel⟩, List.mem_of_getElem? (i := 285) (by decide +kernel), List.mem_of_getElem? (i := 1164) (by decide +kernel), List.mem_of_getElem? (i := 1165) (by decide +kernel)⟩
theorem lw_p43 : lw_okq (⟨"EmptyHat$Image", "put", "(II)V"⟩, 3) := ⟨⟨by decide +kernel, by decide +kernel⟩, List.mem_of_getElem? (i := 512) (by decide +kernel), List.mem_of_getElem? (i := 1178) (by decide +kernel), List.mem_of_getElem? (i := 1179) (by decide +kernel)⟩
theorem lw_p44 : lw_okq (⟨"EmptyHat$Image", "take", "(LEmptyHat$Text;I)I"⟩, 3) := ⟨⟨by decide +kernel, by decide +kernel⟩, List.mem_of_getElem? (i := 512) (by decide +kernel), List.mem_of_getElem? (i := 1198) (by decide +kernel), List.mem_of_getElem? (i := 1199) (by decide +kernel)⟩
theorem lw_p45 : lw_okq (⟨"EmptyHatModel", "chestTold", "()V"⟩, 111) := ⟨⟨by decide +kernel, by decide +kernel⟩, List.mem_of_getElem? (i := 1211) (by decide +kernel), List.mem_of_getElem? (i := 1566) (by decide +kernel), List.mem_of_getElem? (i := 1567) (by decide +kernel)⟩
theorem lw_p46 : lw_okq (⟨"EmptyHatModel", "asks", "([C)V"⟩, 111) := ⟨⟨by decide +kernel, by decide +kernel⟩, List.mem_of_getElem? (i := 1211) (by decide +kernel), List.mem_of_getElem? (i := 1570) (by decide +kernel), List.mem_of_getElem? (i := 1571) (by decide +kernel)⟩
theorem lw_p47 : lw_okq (⟨"EmptyHatModel", "takes", "([C)Z"⟩, 111) := ⟨⟨by decide +kernel, by decide +kernel⟩, List.mem_of_getElem? (i := 1211) (by decide +kernel), List.mem_of_getElem? (i := 1574) (by decide +kernel), List.mem_of_getElem? (i := 1575) (by decide +kernel)⟩
def lw_privs_3 : List (MethodName × Nat) := [(⟨"EmptyHat$Counted", "mostLeft", "([I)I"⟩, 9), (⟨"EmptyHat$Stage", "seenByAny", "(I)I"⟩, 8), (⟨"EmptyHat", "remember", "()V"⟩, 17), (⟨"EmptyHat", "canPass", "(I)Z"⟩, 17), (⟨"EmptyHat", "boyTells", "()Z"⟩, 17), (⟨"EmptyHat", "draw", "(I)I"⟩, 17), (⟨"EmptyHat$Reader", "test", "(I)Z"⟩, 3), (⟨"EmptyHat$Reader", "facts", "(I)Z"⟩, 3), (⟨"EmptyHat$Reader", "fact", "(I)Z"⟩, 3), (⟨"EmptyHat$Reader", "compared", "(I)Z"⟩, 3), (⟨"EmptyHat$Question", "with", "(JII)J"⟩, 5), (⟨"EmptyHat$Image", "put", "(II)V"⟩, 3), (⟨"EmptyHat$Image", "take", "(LEmptyHat$Text;I)I"⟩, 3), (⟨"EmptyHatModel", "chestTold", "()V"⟩, 111), (⟨"EmptyHatModel", "asks", "([C)V"⟩, 111), (⟨"EmptyHatModel", "takes", "([C)Z"⟩, 111)]
theorem lw_r3 : ∀ q ∈ lw_privs_3, lw_okq q := List.forall_mem_cons.mpr ⟨lw_p32, List.forall_mem_cons.mpr ⟨lw_p33, List.forall_mem_cons.mpr ⟨lw_p34, List.forall_mem_cons.mpr ⟨lw_p35, List.forall_mem_cons.mpr ⟨lw_p36, List.forall_mem_cons.mpr ⟨lw_p37, List.forall_mem_cons.mpr ⟨lw_p38, List.forall_mem_cons.mpr ⟨lw_p39, List.forall_mem_cons.mpr ⟨lw_p40, List.forall_mem_cons.mpr ⟨lw_p41, List.forall_mem_cons.mpr ⟨lw_p42, List.forall_mem_cons.mpr ⟨lw_p43, List.forall_mem_cons.mpr ⟨lw_p44, List.forall_mem_cons.mpr ⟨lw_p45, List.forall_mem_cons.mpr ⟨lw_p46, List.forall_mem_cons.mpr ⟨lw_p47, fun _ h => absurd h List.not_mem_nil⟩⟩⟩⟩⟩⟩⟩⟩⟩⟩⟩⟩⟩⟩⟩⟩
theorem lw_p48 : lw_okq (⟨"EmptyHatModel", "isHere", "([C)Z"⟩, 111) := ⟨⟨by decide +kernel, by decide +kernel⟩, List.mem_of_getElem? (i := 1211) (by decide +kernel), List.mem_of_getElem? (i := 1578) (by decide +kernel), List.mem_of_getElem? (i := 1579) (by decide +kernel)⟩
theorem lw_p49 : lw_okq (⟨"EmptyHatModel", "look0", "()I"⟩, 111) := ⟨⟨by decide +kernel, by decide +kernel⟩, List.mem_of_getElem? (i := 1211) (by decide +kernel), List.mem_of_getElem? (i := 1582) (by decide +kernel), List.mem_of_getElem? (i := 1583) (by decide +kernel)⟩
theorem lw_p50 : lw_okq (⟨"EmptyHatModel", "fail", "(II)V"⟩, 111) := ⟨⟨by decide +kernel, by decide +kernel⟩, List.mem_of_getElem? (i := 1211) (by decide +kernel), List.mem_of_getElem? (i := 1589) (by decide +kernel), List.mem_of_getElem? (i := 1590) (by decide +kernel)⟩
theorem lw_p51 : lw_okq (⟨"EmptyHatModel", "number", "(II)I"⟩, 111) := ⟨⟨by decide +kernel, by decide +kernel⟩, List.mem_of_getElem? (i := 1211) (by decide +kernel), List.mem_of_getElem? (i := 1593) (by decide +kernel), List.mem_of_getElem? (i := 1594) (by decide +kernel)⟩
theorem lw_p52 : lw_okq (⟨"EmptyHatModel", "asksSign", "(I)V"⟩, 111) := ⟨⟨by decide +kernel, by decide +kernel⟩, List.mem_of_getElem? (i := 1211) (by decide +kernel), List.mem_of_getElem? (i := 1603) (by decide +kernel), List.mem_of_getElem? (i := 1604) (by decide +kernel)⟩
theorem lw_p53 : lw_okq (⟨"EmptyHatModel", "takesSign", "(I)Z"⟩, 111) := ⟨⟨by decide +kernel, by decide +kernel⟩, List.mem_of_getElem? (i := 1211) (by decide +kernel), List.mem_of_getElem? (i := 1607) (by decide +kernel), List.mem_of_getElem? (i := 1608) (by decide +kernel)⟩
theorem lw_p54 : lw_okq (⟨"EmptyHatModel", "statementTold", "()V"⟩, 111) := ⟨⟨by decide +kernel, by decide +kernel⟩, List.mem_of_getElem? (i := 1211) (by decide +kernel), List.mem_of_getElem? (i := 1611) (by decide +kernel), List.mem_of_getElem? (i := 1612) (by decide +kernel)⟩
theorem lw_p55 : lw_okq (⟨"EmptyHatModel", "provinceTold", "(I)V"⟩, 111) := ⟨⟨by decide +kernel, by decide +kernel⟩, List.mem_of_getElem? (i := 1211) (by decide +kernel), List.mem_of_getElem? (i := 1615) (by decide +kernel), List.mem_of_getElem? (i := 1616) (by decide +kernel)⟩
theorem lw_p56 : lw_okq (⟨"EmptyHatModel", "isFull", "(III)Z"⟩, 111) := ⟨⟨by decide +kernel, by decide +kernel⟩, List.mem_of_getElem? (i := 1211) (by decide +kernel), List.mem_of_getElem? (i := 1619) (by decide +kernel), List.mem_of_getElem? (i := 1620) (by decide +kernel)⟩
theorem lw_p57 : lw_okq (⟨"EmptyHatModel", "newName", "()J"⟩, 111) := ⟨⟨by decide +kernel, by decide +kernel⟩, List.mem_of_getElem? (i := 1211) (by decide +kernel), List.mem_of_getElem? (i := 1623) (by decide +kernel), List.mem_of_getElem? (i := 1624) (by decide +kernel)⟩
theorem lw_p58 : lw_okq (⟨"EmptyHatModel", "name", "()J"⟩, 111) := ⟨⟨by decide +kernel, by decide +kernel⟩, List.mem_of_getElem? (i := 1211) (by decide +kernel), List.mem_of_getElem? (i := 1627) (by decide +kernel), List.mem_of_getElem? (i := 1628) (by decide +kernel)⟩
theorem lw_p59 : lw_okq (⟨"EmptyHatModel", "isOwnHere", "()Z"⟩, 111) := ⟨⟨by decide +kernel, by decide +kernel⟩, List.mem_of_getElem? (i := 1211) (by decide +kernel), List.mem_of_getElem? (i := 1631) (by decide +kernel), List.mem_of_getElem? (i := 1632) (by decide +kernel)⟩
theorem lw_p60 : lw_okq (⟨"EmptyHatModel", "nameOf", "(IJ)I"⟩, 111) := ⟨⟨by decide +kernel, by decide +kernel⟩, List.mem_of_getElem? (i := 1211) (by decide +kernel), List.mem_of_getElem? (i := 1637) (by decide +kernel), List.mem_of_getElem? (i := 1638) (by decide +kernel)⟩
theorem lw_p61 : lw_okq (⟨"EmptyHatModel", "adds", "(IJ)I"⟩, 111) := ⟨⟨by decide +kernel, by decide +kernel⟩, List.mem_of_getElem? (i := 1211) (by decide +kernel), List.mem_of_getElem? (i := 1641) (by decide +kernel), List.mem_of_getElem? (i := 1642) (by decide +kernel)⟩
theorem lw_p62 : lw_okq (⟨"EmptyHatModel", "trickTold", "(I)V"⟩, 111) := ⟨⟨by decide +kernel, by decide +kernel⟩, List.mem_of_getElem? (i := 1211) (by decide +kernel), List.mem_of_getElem? (i := 1645) (by decide +kernel), List.mem_of_getElem? (i := 1646) (by decide +kernel)⟩
theorem lw_p63 : lw_okq (⟨"EmptyHatModel", "watcherTold", "(I)V"⟩, 111) := ⟨⟨by decide +kernel, by decide +kernel⟩, List.mem_of_getElem? (i := 1211) (by decide +kernel), List.mem_of_getElem? (i := 1649) (by decide +kernel), List.mem_of_getElem? (i := 1650) (by decide +kernel)⟩
def lw_privs_4 : List (MethodName × Nat) := [(⟨"EmptyHatModel", "isHere", "([C)Z"⟩, 111), (⟨"EmptyHatModel", "look0", "()I"⟩, 111), (⟨"EmptyHatModel", "fail", "(II)V"⟩, 111), (⟨"EmptyHatModel", "number", "(II)I"⟩, 111), (⟨"EmptyHatModel", "asksSign", "(I)V"⟩, 111), (⟨"EmptyHatModel", "takesSign", "(I)Z"⟩, 111), (⟨"EmptyHatModel", "statementTold", "()V"⟩, 111), (⟨"EmptyHatModel", "provinceTold", "(I)V"⟩, 111), (⟨"EmptyHatModel", "isFull", "(III)Z"⟩, 111), (⟨"EmptyHatModel", "newName", "()J"⟩, 111), (⟨"EmptyHatModel", "name", "()J"⟩, 111), (⟨"EmptyHatModel", "isOwnHere", "()Z"⟩, 111), (⟨"EmptyHatModel", "nameOf", "(IJ)I"⟩, 111), (⟨"EmptyHatModel", "adds", "(IJ)I"⟩, 111), (⟨"EmptyHatModel", "trickTold", "(I)V"⟩, 111), (⟨"EmptyHatModel", "watcherTold", "(I)V"⟩, 111)]
theorem lw_r4 : ∀ q ∈ lw_privs_4, lw_okq q := List.forall_mem_cons.mpr ⟨lw_p48, List.forall_mem_cons.mpr ⟨lw_p49, List.forall_mem_cons.mpr ⟨lw_p50, List.forall_mem_cons.mpr ⟨lw_p51, List.forall_mem_cons.mpr ⟨lw_p52, List.forall_mem_cons.mpr ⟨lw_p53, List.forall_mem_cons.mpr ⟨lw_p54, List.forall_mem_cons.mpr ⟨lw_p55, List.forall_mem_cons.mpr ⟨lw_p56, List.forall_mem_cons.mpr ⟨lw_p57, List.forall_mem_cons.mpr ⟨lw_p58, List.forall_mem_cons.mpr ⟨lw_p59, List.forall_mem_cons.mpr ⟨lw_p60, List.forall_mem_cons.mpr ⟨lw_p61, List.forall_mem_cons.mpr ⟨lw_p62, List.forall_mem_cons.mpr ⟨lw_p63, fun _ h => absurd h List.not_mem_nil⟩⟩⟩⟩⟩⟩⟩⟩⟩⟩⟩⟩⟩⟩⟩⟩
theorem lw_p64 : lw_okq (⟨"EmptyHatModel", "codesTold", "(II)V"⟩, 111) := ⟨⟨by decide +kernel, by decide +kernel⟩, List.mem_of_getElem? (i := 1211) (by decide +kernel), List.mem_of_getElem? (i := 1653) (by decide +kernel), List.mem_of_getElem? (i := 1654) (by decide +kernel)⟩
theorem lw_p65 : lw_okq (⟨"EmptyHatModel", "qSums", "()V"⟩, 111) := ⟨⟨by decide +kernel, by decide +kernel⟩, List.mem_of_getElem? (i := 1211) (by decide +kernel), List.mem_of_getElem? (i := 1657) (by decide +kernel), List.mem_of_getElem? (i := 1658) (by decide +kernel)⟩
theorem lw_p66 : lw_okq (⟨"EmptyHatModel", "qPartTold", "()V"⟩, 111) := ⟨⟨by decide +kernel, by decide +kernel⟩, List.mem_of_getElem? (i := 1211) (by decide +kernel), List.mem_of_getElem? (i := 1661) (by decide +kernel), List.mem_of_getElem? (i := 1662) (by decide +kernel)⟩
theorem lw_p67 : lw_okq (⟨"EmptyHatModel", "qWordOf", "(II)I"⟩, 111) := ⟨⟨by decide +kernel, by decide +kernel⟩, List.mem_of_getElem? (i := 1211) (by decide +kernel), List.mem_of_getElem? (i := 1665) (by decide +kernel), List.mem_of_getElem? (i := 1666) (by decide +kernel)⟩
theorem lw_p68 : lw_okq (⟨"EmptyHatModel", "qWordHere", "()I"⟩, 111) := ⟨⟨by decide +kernel, by decide +kernel⟩, List.mem_of_getElem? (i := 1211) (by decide +kernel), List.mem_of_getElem? (i := 1669) (by decide +kernel), List.mem_of_getElem? (i := 1670) (by decide +kernel)⟩
theorem lw_p69 : lw_okq (⟨"EmptyHatModel", "isAllowed", "(I)Z"⟩, 111) := ⟨⟨by decide +kernel, by decide +kernel⟩, List.mem_of_getElem? (i := 1211) (by decide +kernel), List.mem_of_getElem? (i := 1673) (by decide +kernel), List.mem_of_getElem? (i := 1674) (by decide +kernel)⟩
theorem lw_p70 : lw_okq (⟨"EmptyHatModel", "qOpens", "(II)V"⟩, 111) := ⟨⟨by decide +kernel, by decide +kernel⟩, List.mem_of_getElem? (i := 1211) (by decide +kernel), List.mem_of_getElem? (i := 1677) (by decide +kernel), List.mem_of_getElem? (i := 1678) (by decide +kernel)⟩
theorem lw_p71 : lw_okq (⟨"EmptyHatModel", "qAsksWord", "(I)V"⟩, 111) := ⟨⟨by decide +kernel, by decide +kernel⟩, List.mem_of_getElem? (i := 1211) (by decide +kernel), List.mem_of_getElem? (i := 1681) (by decide +kernel), List.mem_of_getElem? (i := 1682) (by decide +kernel)⟩
theorem lw_p72 : lw_okq (⟨"EmptyHatModel", "qCode", "(I)V"⟩, 111) := ⟨⟨by decide +kernel, by decide +kernel⟩, List.mem_of_getElem? (i := 1211) (by decide +kernel), List.mem_of_getElem? (i := 1685) (by decide +kernel), List.mem_of_getElem? (i := 1686) (by decide +kernel)⟩
theorem lw_p73 : lw_okq (⟨"EmptyHatModel", "qEndsPart", "()V"⟩, 111) := ⟨⟨by decide +kernel, by decide +kernel⟩, List.mem_of_getElem? (i := 1211) (by decide +kernel), List.mem_of_getElem? (i := 1689) (by decide +kernel), List.mem_of_getElem? (i := 1690) (by decide +kernel)⟩
theorem lw_p74 : lw_okq (⟨"EmptyHatModel", "qDrops", "()V"⟩, 111) := ⟨⟨by decide +kernel, by decide +kernel⟩, List.mem_of_getElem? (i := 1211) (by decide +kernel), List.mem_of_getElem? (i := 1693) (by decide +kernel), List.mem_of_getElem? (i := 1694) (by decide +kernel)⟩
theorem lw_p75 : lw_okq (⟨"EmptyHatModel", "qGoesOn", "()Z"⟩, 111) := ⟨⟨by decide +kernel, by decide +kernel⟩, List.mem_of_getElem? (i := 1211) (by decide +kernel), List.mem_of_getElem? (i := 1697) (by decide +kernel), List.mem_of_getElem? (i := 1698) (by decide +kernel)⟩
theorem lw_p76 : lw_okq (⟨"EmptyHatModel", "qBracket", "()I"⟩, 111) := ⟨⟨by decide +kernel, by decide +kernel⟩, List.mem_of_getElem? (i := 1211) (by decide +kernel), List.mem_of_getElem? (i := 1701) (by decide +kernel), List.mem_of_getElem? (i := 1702) (by decide +kernel)⟩
theorem lw_p77 : lw_okq (⟨"EmptyHatModel", "qDropsToBracket", "()V"⟩, 111) := ⟨⟨by decide +kernel, by decide +kernel⟩, List.mem_of_getElem? (i := 1211) (by decide +kernel), List.mem_of_getElem? (i := 1708) (by decide +kernel), List.mem_of_getElem? (i := 1709) (by decide +kernel)⟩
theorem lw_p78 : lw_okq (⟨"EmptyHatModel", "qIsOn", "(I)Z"⟩, 111) := ⟨⟨by decide +kernel, by decide +kernel⟩, List.mem_of_getElem? (i := 1211) (by decide +kernel), List.mem_of_getElem? (i := 1712) (by decide +kernel), List.mem_of_getElem? (i := 1713) (by decide +kernel)⟩
theorem lw_p79 : lw_okq (⟨"EmptyHatModel", "stands", "()V"⟩, 111) := ⟨⟨by decide +kernel, by decide +kernel⟩, List.mem_of_getElem? (i := 1211) (by decide +kernel), List.mem_of_getElem? (i := 1716) (by decide +kernel), List.mem_of_getElem? (i := 1717) (by decide +kernel)⟩
def lw_privs_5 : List (MethodName × Nat) := [(⟨"EmptyHatModel", "codesTold", "(II)V"⟩, 111), (⟨"EmptyHatModel", "qSums", "()V"⟩, 111), (⟨"EmptyHatModel", "qPartTold", "()V"⟩, 111), (⟨"EmptyHatModel", "qWordOf", "(II)I"⟩, 111), (⟨"EmptyHatModel", "qWordHere", "()I"⟩, 111), (⟨"EmptyHatModel", "isAllowed", "(I)Z"⟩, 111), (⟨"EmptyHatModel", "qOpens", "(II)V"⟩, 111), (⟨"EmptyHatModel", "qAsksWord", "(I)V"⟩, 111), (⟨"EmptyHatModel", "qCode", "(I)V"⟩, 111), (⟨"EmptyHatModel", "qEndsPart", "()V"⟩, 111), (⟨"EmptyHatModel", "qDrops", "()V"⟩, 111), (⟨"EmptyHatModel", "qGoesOn", "()Z"⟩, 111), (⟨"EmptyHatModel", "qBracket", "()I"⟩, 111), (⟨"EmptyHatModel", "qDropsToBracket", "()V"⟩, 111), (⟨"EmptyHatModel", "qIsOn", "(I)Z"⟩, 111), (⟨"EmptyHatModel", "stands", "()V"⟩, 111)]
theorem lw_r5 : ∀ q ∈ lw_privs_5, lw_okq q := List.forall_mem_cons.mpr ⟨lw_p64, List.forall_mem_cons.mpr ⟨lw_p65, List.forall_mem_cons.mpr ⟨lw_p66, List.forall_mem_cons.mpr ⟨lw_p67, List.forall_mem_cons.mpr ⟨lw_p68, List.forall_mem_cons.mpr ⟨lw_p69, List.forall_mem_cons.mpr ⟨lw_p70, List.forall_mem_cons.mpr ⟨lw_p71, List.forall_mem_cons.mpr ⟨lw_p72, List.forall_mem_cons.mpr ⟨lw_p73, List.forall_mem_cons.mpr ⟨lw_p74, List.forall_mem_cons.mpr ⟨lw_p75, List.forall_mem_cons.mpr ⟨lw_p76, List.forall_mem_cons.mpr ⟨lw_p77, List.forall_mem_cons.mpr ⟨lw_p78, List.forall_mem_cons.mpr ⟨lw_p79, fun _ h => absurd h List.not_mem_nil⟩⟩⟩⟩⟩⟩⟩⟩⟩⟩⟩⟩⟩⟩⟩⟩
theorem lw_p80 : lw_okq (⟨"EmptyHatModel", "throughSet", "()I"⟩, 111) := ⟨⟨by decide +kernel, by decide +kernel⟩, List.mem_of_getElem? (i := 1211) (by decide +kernel), List.mem_of_getElem? (i := 1728) (by decide +kernel), List.mem_of_getElem? (i := 1729) (by decide +kernel)⟩
theorem lw_p81 : lw_okq (⟨"EmptyHatModel", "trickMany", "()I"⟩, 111) := ⟨⟨by decide +kernel, by decide +kernel⟩, List.mem_of_getElem? (i := 1211) (by decide +kernel), List.mem_of_getElem? (i := 1732) (by decide +kernel), List.mem_of_getElem? (i := 1733) (by decide +kernel)⟩
theorem lw_p82 : lw_okq (⟨"EmptyHatModel", "knownOf", "(I)I"⟩, 111) := ⟨⟨by decide +kernel, by decide +kernel⟩, List.mem_of_getElem? (i := 1211) (by decide +kernel), List.mem_of_getElem? (i := 1736) (by decide +kernel), List.mem_of_getElem? (i := 1737) (by decide +kernel)⟩
theorem lw_p83 : lw_okq (⟨"EmptyHatModel", "storesAll", "()I"⟩, 111) := ⟨⟨by decide +kernel, by decide +kernel⟩, List.mem_of_getElem? (i := 1211) (by decide +kernel), List.mem_of_getElem? (i := 1743) (by decide +kernel), List.mem_of_getElem? (i := 1744) (by decide +kernel)⟩
theorem lw_p84 : lw_okq (⟨"EmptyHatModel", "provinceMany", "()I"⟩, 111) := ⟨⟨by decide +kernel, by decide +kernel⟩, List.mem_of_getElem? (i := 1211) (by decide +kernel), List.mem_of_getElem? (i := 1747) (by decide +kernel), List.mem_of_getElem? (i := 1748) (by decide +kernel)⟩
theorem lw_p85 : lw_okq (⟨"EmptyHatModel", "isProvince", "(I)Z"⟩, 111) := ⟨⟨by decide +kernel, by decide +kernel⟩, List.mem_of_getElem? (i := 1211) (by decide +kernel), List.mem_of_getElem? (i := 1761) (by decide +kernel), List.mem_of_getElem? (i := 1762) (by decide +kernel)⟩
theorem lw_p86 : lw_okq (⟨"EmptyHatModel", "isTrick", "(I)Z"⟩, 111) := ⟨⟨by decide +kernel, by decide +kernel⟩, List.mem_of_getElem? (i := 1211) (by decide +kernel), List.mem_of_getElem? (i := 1769) (by decide +kernel), List.mem_of_getElem? (i := 1770) (by decide +kernel)⟩
theorem lw_p87 : lw_okq (⟨"EmptyHatModel", "timesOf", "(I)I"⟩, 111) := ⟨⟨by decide +kernel, by decide +kernel⟩, List.mem_of_getElem? (i := 1211) (by decide +kernel), List.mem_of_getElem? (i := 1773) (by decide +kernel), List.mem_of_getElem? (i := 1774) (by decide +kernel)⟩
theorem lw_p88 : lw_okq (⟨"EmptyHatModel", "sightOf", "(I)I"⟩, 111) := ⟨⟨by decide +kernel, by decide +kernel⟩, List.mem_of_getElem? (i := 1211) (by decide +kernel), List.mem_of_getElem? (i := 1777) (by decide +kernel), List.mem_of_getElem? (i := 1778) (by decide +kernel)⟩
theorem lw_p89 : lw_okq (⟨"EmptyHatModel", "watcherMany", "()I"⟩, 111) := ⟨⟨by decide +kernel, by decide +kernel⟩, List.mem_of_getElem? (i := 1211) (by decide +kernel), List.mem_of_getElem? (i := 1781) (by decide +kernel), List.mem_of_getElem? (i := 1782) (by decide +kernel)⟩
theorem lw_p90 : lw_okq (⟨"EmptyHatModel", "seatOf", "(I)I"⟩, 111) := ⟨⟨by decide +kernel, by decide +kernel⟩, List.mem_of_getElem? (i := 1211) (by decide +kernel), List.mem_of_getElem? (i := 1785) (by decide +kernel), List.mem_of_getElem? (i := 1786) (by decide +kernel)⟩
theorem lw_p91 : lw_okq (⟨"EmptyHatModel", "sightBy", "(III)I"⟩, 111) := ⟨⟨by decide +kernel, by decide +kernel⟩, List.mem_of_getElem? (i := 1211) (by decide +kernel), List.mem_of_getElem? (i := 1789) (by decide +kernel), List.mem_of_getElem? (i := 1790) (by decide +kernel)⟩
theorem lw_p92 : lw_okq (⟨"EmptyHatModel", "codesTell", "(II)J"⟩, 111) := ⟨⟨by decide +kernel, by decide +kernel⟩, List.mem_of_getElem? (i := 1211) (by decide +kernel), List.mem_of_getElem? (i := 1793) (by decide +kernel), List.mem_of_getElem? (i := 1794) (by decide +kernel)⟩
theorem lw_p93 : lw_okq (⟨"EmptyHatModel", "qPuts", "(J)V"⟩, 111) := ⟨⟨by decide +kernel, by decide +kernel⟩, List.mem_of_getElem? (i := 1211) (by decide +kernel), List.mem_of_getElem? (i := 1797) (by decide +kernel), List.mem_of_getElem? (i := 1798) (by decide +kernel)⟩
theorem lw_p94 : lw_okq (⟨"EmptyHatModel", "qPartOf", "(II)J"⟩, 111) := ⟨⟨by decide +kernel, by decide +kernel⟩, List.mem_of_getElem? (i := 1211) (by decide +kernel), List.mem_of_getElem? (i := 1801) (by decide +kernel), List.mem_of_getElem? (i := 1802) (by decide +kernel)⟩
theorem lw_p95 : lw_okq (⟨"EmptyHatModel", "qJoins", "(I)V"⟩, 111) := ⟨⟨by decide +kernel, by decide +kernel⟩, List.mem_of_getElem? (i := 1211) (by decide +kernel), List.mem_of_getElem? (i := 1805) (by decide +kernel), List.mem_of_getElem? (i := 1806) (by decide +kernel)⟩
def lw_privs_6 : List (MethodName × Nat) := [(⟨"EmptyHatModel", "throughSet", "()I"⟩, 111), (⟨"EmptyHatModel", "trickMany", "()I"⟩, 111), (⟨"EmptyHatModel", "knownOf", "(I)I"⟩, 111), (⟨"EmptyHatModel", "storesAll", "()I"⟩, 111), (⟨"EmptyHatModel", "provinceMany", "()I"⟩, 111), (⟨"EmptyHatModel", "isProvince", "(I)Z"⟩, 111), (⟨"EmptyHatModel", "isTrick", "(I)Z"⟩, 111), (⟨"EmptyHatModel", "timesOf", "(I)I"⟩, 111), (⟨"EmptyHatModel", "sightOf", "(I)I"⟩, 111), (⟨"EmptyHatModel", "watcherMany", "()I"⟩, 111), (⟨"EmptyHatModel", "seatOf", "(I)I"⟩, 111), (⟨"EmptyHatModel", "sightBy", "(III)I"⟩, 111), (⟨"EmptyHatModel", "codesTell", "(II)J"⟩, 111), (⟨"EmptyHatModel", "qPuts", "(J)V"⟩, 111), (⟨"EmptyHatModel", "qPartOf", "(II)J"⟩, 111), (⟨"EmptyHatModel", "qJoins", "(I)V"⟩, 111)]
theorem lw_r6 : ∀ q ∈ lw_privs_6, lw_okq q := List.forall_mem_cons.mpr ⟨lw_p80, List.forall_mem_cons.mpr ⟨lw_p81, List.forall_mem_cons.mpr ⟨lw_p82, List.forall_mem_cons.mpr ⟨lw_p83, List.forall_mem_cons.mpr ⟨lw_p84, List.forall_mem_cons.mpr ⟨lw_p85, List.forall_mem_cons.mpr ⟨lw_p86, List.forall_mem_cons.mpr ⟨lw_p87, List.forall_mem_cons.mpr ⟨lw_p88, List.forall_mem_cons.mpr ⟨lw_p89, List.forall_mem_cons.mpr ⟨lw_p90, List.forall_mem_cons.mpr ⟨lw_p91, List.forall_mem_cons.mpr ⟨lw_p92, List.forall_mem_cons.mpr ⟨lw_p93, List.forall_mem_cons.mpr ⟨lw_p94, List.forall_mem_cons.mpr ⟨lw_p95, fun _ h => absurd h List.not_mem_nil⟩⟩⟩⟩⟩⟩⟩⟩⟩⟩⟩⟩⟩⟩⟩⟩
theorem lw_p96 : lw_okq (⟨"EmptyHatModel", "isWatcher", "(I)Z"⟩, 111) := ⟨⟨by decide +kernel, by decide +kernel⟩, List.mem_of_getElem? (i := 1211) (by decide +kernel), List.mem_of_getElem? (i := 1822) (by decide +kernel), List.mem_of_getElem? (i := 1823) (by decide +kernel)⟩
theorem lw_p97 : lw_okq (⟨"EmptyHatModel", "sightAll", "(II)I"⟩, 111) := ⟨⟨by decide +kernel, by decide +kernel⟩, List.mem_of_getElem? (i := 1211) (by decide +kernel), List.mem_of_getElem? (i := 1826) (by decide +kernel), List.mem_of_getElem? (i := 1827) (by decide +kernel)⟩
theorem lw_p98 : lw_okq (⟨"EmptyHatModel", "yieldsComeNow", "()V"⟩, 111) := ⟨⟨by decide +kernel, by decide +kernel⟩, List.mem_of_getElem? (i := 1211) (by decide +kernel), List.mem_of_getElem? (i := 1842) (by decide +kernel), List.mem_of_getElem? (i := 1843) (by decide +kernel)⟩
theorem lw_p99 : lw_okq (⟨"EmptyHatModel", "yieldsCome", "()V"⟩, 111) := ⟨⟨by decide +kernel, by decide +kernel⟩, List.mem_of_getElem? (i := 1211) (by decide +kernel), List.mem_of_getElem? (i := 1846) (by decide +kernel), List.mem_of_getElem? (i := 1847) (by decide +kernel)⟩
theorem lw_p100 : lw_okq (⟨"EmptyHatModel", "bestShow", "()I"⟩, 111) := ⟨⟨by decide +kernel, by decide +kernel⟩, List.mem_of_getElem? (i := 1211) (by decide +kernel), List.mem_of_getElem? (i := 1850) (by decide +kernel), List.mem_of_getElem? (i := 1851) (by decide +kernel)⟩
theorem lw_p101 : lw_okq (⟨"EmptyHatModel", "laysSights", "()V"⟩, 111) := ⟨⟨by decide +kernel, by decide +kernel⟩, List.mem_of_getElem? (i := 1211) (by decide +kernel), List.mem_of_getElem? (i := 1854) (by decide +kernel), List.mem_of_getElem? (i := 1855) (by decide +kernel)⟩
theorem lw_p102 : lw_okq (⟨"EmptyHatModel", "allTricks", "()I"⟩, 111) := ⟨⟨by decide +kernel, by decide +kernel⟩, List.mem_of_getElem? (i := 1211) (by decide +kernel), List.mem_of_getElem? (i := 1858) (by decide +kernel), List.mem_of_getElem? (i := 1859) (by decide +kernel)⟩
theorem lw_p103 : lw_okq (⟨"EmptyHatModel", "canShow", "(I)Z"⟩, 111) := ⟨⟨by decide +kernel, by decide +kernel⟩, List.mem_of_getElem? (i := 1211) (by decide +kernel), List.mem_of_getElem? (i := 1862) (by decide +kernel), List.mem_of_getElem? (i := 1863) (by decide +kernel)⟩
theorem lw_p104 : lw_okq (⟨"EmptyHatModel", "isBetter", "(II)Z"⟩, 111) := ⟨⟨by decide +kernel, by decide +kernel⟩, List.mem_of_getElem? (i := 1211) (by decide +kernel), List.mem_of_getElem? (i := 1866) (by decide +kernel), List.mem_of_getElem? (i := 1867) (by decide +kernel)⟩
theorem lw_p105 : lw_okq (⟨"EmptyHatModel", "appearsBy", "(I)I"⟩, 111) := ⟨⟨by decide +kernel, by decide +kernel⟩, List.mem_of_getElem? (i := 1211) (by decide +kernel), List.mem_of_getElem? (i := 1870) (by decide +kernel), List.mem_of_getElem? (i := 1871) (by decide +kernel)⟩
theorem lw_p106 : lw_okq (⟨"EmptyHatModel", "sightBySet", "(I)I"⟩, 111) := ⟨⟨by decide +kernel, by decide +kernel⟩, List.mem_of_getElem? (i := 1211) (by decide +kernel), List.mem_of_getElem? (i := 1874) (by decide +kernel), List.mem_of_getElem? (i := 1875) (by decide +kernel)⟩
theorem lw_p107 : lw_okq (⟨"EmptyHatModel", "yieldsGoBack", "()V"⟩, 111) := ⟨⟨by decide +kernel, by decide +kernel⟩, List.mem_of_getElem? (i := 1211) (by decide +kernel), List.mem_of_getElem? (i := 1878) (by decide +kernel), List.mem_of_getElem? (i := 1879) (by decide +kernel)⟩
theorem lw_p108 : lw_okq (⟨"EmptyHatModel", "isAhead", "(III)Z"⟩, 111) := ⟨⟨by decide +kernel, by decide +kernel⟩, List.mem_of_getElem? (i := 1211) (by decide +kernel), List.mem_of_getElem? (i := 1890) (by decide +kernel), List.mem_of_getElem? (i := 1891) (by decide +kernel)⟩
theorem lw_p109 : lw_okq (⟨"EmptyHatModel", "putsAside", "()V"⟩, 111) := ⟨⟨by decide +kernel, by decide +kernel⟩, List.mem_of_getElem? (i := 1211) (by decide +kernel), List.mem_of_getElem? (i := 1895) (by decide +kernel), List.mem_of_getElem? (i := 1896) (by decide +kernel)⟩
theorem lw_p110 : lw_okq (⟨"EmptyHatModel", "yearsGo", "(I)V"⟩, 111) := ⟨⟨by decide +kernel, by decide +kernel⟩, List.mem_of_getElem? (i := 1211) (by decide +kernel), List.mem_of_getElem? (i := 1899) (by decide +kernel), List.mem_of_getElem? (i := 1900) (by decide +kernel)⟩
theorem lw_p111 : lw_okq (⟨"EmptyHatModel", "yearGoes", "()V"⟩, 111) := ⟨⟨by decide +kernel, by decide +kernel⟩, List.mem_of_getElem? (i := 1211) (by decide +kernel), List.mem_of_getElem? (i := 1903) (by decide +kernel), List.mem_of_getElem? (i := 1904) (by decide +kernel)⟩
def lw_privs_7 : List (MethodName × Nat) := [(⟨"EmptyHatModel", "isWatcher", "(I)Z"⟩, 111), (⟨"EmptyHatModel", "sightAll", "(II)I"⟩, 111), (⟨"EmptyHatModel", "yieldsComeNow", "()V"⟩, 111), (⟨"EmptyHatModel", "yieldsCome", "()V"⟩, 111), (⟨"EmptyHatModel", "bestShow", "()I"⟩, 111), (⟨"EmptyHatModel", "laysSights", "()V"⟩, 111), (⟨"EmptyHatModel", "allTricks", "()I"⟩, 111), (⟨"EmptyHatModel", "canShow", "(I)Z"⟩, 111), (⟨"EmptyHatModel", "isBetter", "(II)Z"⟩, 111), (⟨"EmptyHatModel", "appearsBy", "(I)I"⟩, 111), (⟨"EmptyHatModel", "sightBySet", "(I)I"⟩, 111), (⟨"EmptyHatModel", "yieldsGoBack", "()V"⟩, 111), (⟨"EmptyHatModel", "isAhead", "(III)Z"⟩, 111), (⟨"EmptyHatModel", "putsAside", "()V"⟩, 111), (⟨"EmptyHatModel", "yearsGo", "(I)V"⟩, 111), (⟨"EmptyHatModel", "yearGoes", "()V"⟩, 111)]
theorem lw_r7 : ∀ q ∈ lw_privs_7, lw_okq q := List.forall_mem_cons.mpr ⟨lw_p96, List.forall_mem_cons.mpr ⟨lw_p97, List.forall_mem_cons.mpr ⟨lw_p98, List.forall_mem_cons.mpr ⟨lw_p99, List.forall_mem_cons.mpr ⟨lw_p100, List.forall_mem_cons.mpr ⟨lw_p101, List.forall_mem_cons.mpr ⟨lw_p102, List.forall_mem_cons.mpr ⟨lw_p103, List.forall_mem_cons.mpr ⟨lw_p104, List.forall_mem_cons.mpr ⟨lw_p105, List.forall_mem_cons.mpr ⟨lw_p106, List.forall_mem_cons.mpr ⟨lw_p107, List.forall_mem_cons.mpr ⟨lw_p108, List.forall_mem_cons.mpr ⟨lw_p109, List.forall_mem_cons.mpr ⟨lw_p110, List.forall_mem_cons.mpr ⟨lw_p111, fun _ h => absurd h List.not_mem_nil⟩⟩⟩⟩⟩⟩⟩⟩⟩⟩⟩⟩⟩⟩⟩⟩
theorem lw_p112 : lw_okq (⟨"EmptyHatModel", "yearEnds", "(I)V"⟩, 111) := ⟨⟨by decide +kernel, by decide +kernel⟩, List.mem_of_getElem? (i := 1211) (by decide +kernel), List.mem_of_getElem? (i := 1907) (by decide +kernel), List.mem_of_getElem? (i := 1908) (by decide +kernel)⟩
theorem lw_p113 : lw_okq (⟨"EmptyHatModel", "showGoes", "(I)V"⟩, 111) := ⟨⟨by decide +kernel, by decide +kernel⟩, List.mem_of_getElem? (i := 1211) (by decide +kernel), List.mem_of_getElem? (i := 1911) (by decide +kernel), List.mem_of_getElem? (i := 1912) (by decide +kernel)⟩
theorem lw_p114 : lw_okq (⟨"EmptyHatModel", "isSeenThrough", "(I)V"⟩, 111) := ⟨⟨by decide +kernel, by decide +kernel⟩, List.mem_of_getElem? (i := 1211) (by decide +kernel), List.mem_of_getElem? (i := 1915) (by decide +kernel), List.mem_of_getElem? (i := 1916) (by decide +kernel)⟩
theorem lw_p115 : lw_okq (⟨"EmptyHatModel", "isKept", "(I)V"⟩, 111) := ⟨⟨by decide +kernel, by decide +kernel⟩, List.mem_of_getElem? (i := 1211) (by decide +kernel), List.mem_of_getElem? (i := 1920) (by decide +kernel), List.mem_of_getElem? (i := 1921) (by decide +kernel)⟩
theorem lw_p116 : lw_okq (⟨"EmptyHatModel", "debtGoes", "()V"⟩, 111) := ⟨⟨by decide +kernel, by decide +kernel⟩, List.mem_of_getElem? (i := 1211) (by decide +kernel), List.mem_of_getElem? (i := 1924) (by decide +kernel), List.mem_of_getElem? (i := 1925) (by decide +kernel)⟩
theorem lw_p117 : lw_okq (⟨"EmptyHatModel", "takesBack", "()V"⟩, 111) := ⟨⟨by decide +kernel, by decide +kernel⟩, List.mem_of_getElem? (i := 1211) (by decide +kernel), List.mem_of_getElem? (i := 1931) (by decide +kernel), List.mem_of_getElem? (i := 1932) (by decide +kernel)⟩
theorem lw_p118 : lw_okq (⟨"EmptyHatModel", "triesAnew", "()V"⟩, 111) := ⟨⟨by decide +kernel, by decide +kernel⟩, List.mem_of_getElem? (i := 1211) (by decide +kernel), List.mem_of_getElem? (i := 1935) (by decide +kernel), List.mem_of_getElem? (i := 1936) (by decide +kernel)⟩
theorem lw_p119 : lw_okq (⟨"EmptyHatModel", "refuses", "(I)I"⟩, 111) := ⟨⟨by decide +kernel, by decide +kernel⟩, List.mem_of_getElem? (i := 1211) (by decide +kernel), List.mem_of_getElem? (i := 1955) (by decide +kernel), List.mem_of_getElem? (i := 1956) (by decide +kernel)⟩
theorem lw_p120 : lw_okq (⟨"EmptyHatModel", "laysShows", "()V"⟩, 111) := ⟨⟨by decide +kernel, by decide +kernel⟩, List.mem_of_getElem? (i := 1211) (by decide +kernel), List.mem_of_getElem? (i := 1963) (by decide +kernel), List.mem_of_getElem? (i := 1964) (by decide +kernel)⟩
theorem lw_p121 : lw_okq (⟨"EmptyHatModel", "isAsCounted", "()Z"⟩, 111) := ⟨⟨by decide +kernel, by decide +kernel⟩, List.mem_of_getElem? (i := 1211) (by decide +kernel), List.mem_of_getElem? (i := 1967) (by decide +kernel), List.mem_of_getElem? (i := 1968) (by decide +kernel)⟩
theorem lw_p122 : lw_okq (⟨"EmptyHatModel", "alike", "(II)I"⟩, 111) := ⟨⟨by decide +kernel, by decide +kernel⟩, List.mem_of_getElem? (i := 1211) (by decide +kernel), List.mem_of_getElem? (i := 1975) (by decide +kernel), List.mem_of_getElem? (i := 1976) (by decide +kernel)⟩
theorem lw_p123 : lw_okq (⟨"EmptyHatModel", "doWatch", "(II)Z"⟩, 111) := ⟨⟨by decide +kernel, by decide +kernel⟩, List.mem_of_getElem? (i := 1211) (by decide +kernel), List.mem_of_getElem? (i := 1983) (by decide +kernel), List.mem_of_getElem? (i := 1984) (by decide +kernel)⟩
theorem lw_p124 : lw_okq (⟨"EmptyHatModel", "keeps", "()V"⟩, 111) := ⟨⟨by decide +kernel, by decide +kernel⟩, List.mem_of_getElem? (i := 1211) (by decide +kernel), List.mem_of_getElem? (i := 1999) (by decide +kernel), List.mem_of_getElem? (i := 2000) (by decide +kernel)⟩
theorem lw_p125 : lw_okq (⟨"EmptyHatModel", "isRefused", "()Z"⟩, 111) := ⟨⟨by decide +kernel, by decide +kernel⟩, List.mem_of_getElem? (i := 1211) (by decide +kernel), List.mem_of_getElem? (i := 2008) (by decide +kernel), List.mem_of_getElem? (i := 2009) (by decide +kernel)⟩
theorem lw_p126 : lw_okq (⟨"EmptyHatModel", "drawOf", "(I)I"⟩, 111) := ⟨⟨by decide +kernel, by decide +kernel⟩, List.mem_of_getElem? (i := 1211) (by decide +kernel), List.mem_of_getElem? (i := 2029) (by decide +kernel), List.mem_of_getElem? (i := 2030) (by decide +kernel)⟩
theorem lw_p127 : lw_okq (⟨"EmptyHatModel", "qKind", "()I"⟩, 111) := ⟨⟨by decide +kernel, by decide +kernel⟩, List.mem_of_getElem? (i := 1211) (by decide +kernel), List.mem_of_getElem? (i := 2042) (by decide +kernel), List.mem_of_getElem? (i := 2043) (by decide +kernel)⟩
def lw_privs_8 : List (MethodName × Nat) := [(⟨"EmptyHatModel", "yearEnds", "(I)V"⟩, 111), (⟨"EmptyHatModel", "showGoes", "(I)V"⟩, 111), (⟨"EmptyHatModel", "isSeenThrough", "(I)V"⟩, 111), (⟨"EmptyHatModel", "isKept", "(I)V"⟩, 111), (⟨"EmptyHatModel", "debtGoes", "()V"⟩, 111), (⟨"EmptyHatModel", "takesBack", "()V"⟩, 111), (⟨"EmptyHatModel", "triesAnew", "()V"⟩, 111), (⟨"EmptyHatModel", "refuses", "(I)I"⟩, 111), (⟨"EmptyHatModel", "laysShows", "()V"⟩, 111), (⟨"EmptyHatModel", "isAsCounted", "()Z"⟩, 111), (⟨"EmptyHatModel", "alike", "(II)I"⟩, 111), (⟨"EmptyHatModel", "doWatch", "(II)Z"⟩, 111), (⟨"EmptyHatModel", "keeps", "()V"⟩, 111), (⟨"EmptyHatModel", "isRefused", "()Z"⟩, 111), (⟨"EmptyHatModel", "drawOf", "(I)I"⟩, 111), (⟨"EmptyHatModel", "qKind", "()I"⟩, 111)]
theorem lw_r8 : ∀ q ∈ lw_privs_8, lw_okq q := List.forall_mem_cons.mpr ⟨lw_p112, List.forall_mem_cons.mpr ⟨lw_p113, List.forall_mem_cons.mpr ⟨lw_p114, List.forall_mem_cons.mpr ⟨lw_p115, List.forall_mem_cons.mpr ⟨lw_p116, List.forall_mem_cons.mpr ⟨lw_p117, List.forall_mem_cons.mpr ⟨lw_p118, List.forall_mem_cons.mpr ⟨lw_p119, List.forall_mem_cons.mpr ⟨lw_p120, List.forall_mem_cons.mpr ⟨lw_p121, List.forall_mem_cons.mpr ⟨lw_p122, List.forall_mem_cons.mpr ⟨lw_p123, List.forall_mem_cons.mpr ⟨lw_p124, List.forall_mem_cons.mpr ⟨lw_p125, List.forall_mem_cons.mpr ⟨lw_p126, List.forall_mem_cons.mpr ⟨lw_p127, fun _ h => absurd h List.not_mem_nil⟩⟩⟩⟩⟩⟩⟩⟩⟩⟩⟩⟩⟩⟩⟩⟩
theorem lw_p128 : lw_okq (⟨"EmptyHatModel", "qTest", "()V"⟩, 111) := ⟨⟨by decide +kernel, by decide +kernel⟩, List.mem_of_getElem? (i := 1211) (by decide +kernel), List.mem_of_getElem? (i := 2046) (by decide +kernel), List.mem_of_getElem? (i := 2047) (by decide +kernel)⟩
theorem lw_p129 : lw_okq (⟨"EmptyHatModel", "qFact", "()V"⟩, 111) := ⟨⟨by decide +kernel, by decide +kernel⟩, List.mem_of_getElem? (i := 1211) (by decide +kernel), List.mem_of_getElem? (i := 2050) (by decide +kernel), List.mem_of_getElem? (i := 2051) (by decide +kernel)⟩
theorem lw_p130 : lw_okq (⟨"EmptyHatModel", "qDropsNots", "()V"⟩, 111) := ⟨⟨by decide +kernel, by decide +kernel⟩, List.mem_of_getElem? (i := 1211) (by decide +kernel), List.mem_of_getElem? (i := 2054) (by decide +kernel), List.mem_of_getElem? (i := 2055) (by decide +kernel)⟩
theorem lw_p131 : lw_okq (⟨"EmptyHatModel", "qGoesOnTest", "()Z"⟩, 111) := ⟨⟨by decide +kernel, by decide +kernel⟩, List.mem_of_getElem? (i := 1211) (by decide +kernel), List.mem_of_getElem? (i := 2058) (by decide +kernel), List.mem_of_getElem? (i := 2059) (by decide +kernel)⟩
theorem lw_p132 : lw_okq (⟨"EmptyHatModel", "qHasSquare", "()Z"⟩, 111) := ⟨⟨by decide +kernel, by decide +kernel⟩, List.mem_of_getElem? (i := 1211) (by decide +kernel), List.mem_of_getElem? (i := 2062) (by decide +kernel), List.mem_of_getElem? (i := 2063) (by decide +kernel)⟩
theorem lw_p133 : lw_okq (⟨"EmptyHatModel", "qTold", "(I)J"⟩, 111) := ⟨⟨by decide +kernel, by decide +kernel⟩, List.mem_of_getElem? (i := 1211) (by decide +kernel), List.mem_of_getElem? (i := 2067) (by decide +kernel), List.mem_of_getElem? (i := 2068) (by decide +kernel)⟩
theorem lw_p134 : lw_okq (⟨"EmptyHatModel", "qOf", "(IJI)J"⟩, 111) := ⟨⟨by decide +kernel, by decide +kernel⟩, List.mem_of_getElem? (i := 1211) (by decide +kernel), List.mem_of_getElem? (i := 2071) (by decide +kernel), List.mem_of_getElem? (i := 2072) (by decide +kernel)⟩
theorem lw_p135 : lw_okq (⟨"EmptyHatModel", "qTakes", "(IJI)V"⟩, 111) := ⟨⟨by decide +kernel, by decide +kernel⟩, List.mem_of_getElem? (i := 1211) (by decide +kernel), List.mem_of_getElem? (i := 2075) (by decide +kernel), List.mem_of_getElem? (i := 2076) (by decide +kernel)⟩
theorem lw_p136 : lw_okq (⟨"EmptyHatModel", "writesTwo", "(I)V"⟩, 111) := ⟨⟨by decide +kernel, by decide +kernel⟩, List.mem_of_getElem? (i := 1211) (by decide +kernel), List.mem_of_getElem? (i := 2083) (by decide +kernel), List.mem_of_getElem? (i := 2084) (by decide +kernel)⟩
theorem lw_p137 : lw_okq (⟨"EmptyHatModel", "writes", "(I)V"⟩, 111) := ⟨⟨by decide +kernel, by decide +kernel⟩, List.mem_of_getElem? (i := 1211) (by decide +kernel), List.mem_of_getElem? (i := 2087) (by decide +kernel), List.mem_of_getElem? (i := 2088) (by decide +kernel)⟩
theorem lw_p138 : lw_okq (⟨"EmptyHatModel", "isImage", "(I)Z"⟩, 111) := ⟨⟨by decide +kernel, by decide +kernel⟩, List.mem_of_getElem? (i := 1211) (by decide +kernel), List.mem_of_getElem? (i := 2103) (by decide +kernel), List.mem_of_getElem? (i := 2104) (by decide +kernel)⟩
theorem lw_p139 : lw_okq (⟨"EmptyHatModel", "twoAt", "(I)I"⟩, 111) := ⟨⟨by decide +kernel, by decide +kernel⟩, List.mem_of_getElem? (i := 1211) (by decide +kernel), List.mem_of_getElem? (i := 2107) (by decide +kernel), List.mem_of_getElem? (i := 2108) (by decide +kernel)⟩
def lw_privs_9 : List (MethodName × Nat) := [(⟨"EmptyHatModel", "qTest", "()V"⟩, 111), (⟨"EmptyHatModel", "qFact", "()V"⟩, 111), (⟨"EmptyHatModel", "qDropsNots", "()V"⟩, 111), (⟨"EmptyHatModel", "qGoesOnTest", "()Z"⟩, 111), (⟨"EmptyHatModel", "qHasSquare", "()Z"⟩, 111), (⟨"EmptyHatModel", "qTold", "(I)J"⟩, 111), (⟨"EmptyHatModel", "qOf", "(IJI)J"⟩, 111), (⟨"EmptyHatModel", "qTakes", "(IJI)V"⟩, 111), (⟨"EmptyHatModel", "writesTwo", "(I)V"⟩, 111), (⟨"EmptyHatModel", "writes", "(I)V"⟩, 111), (⟨"EmptyHatModel", "isImage", "(I)Z"⟩, 111), (⟨"EmptyHatModel", "twoAt", "(I)I"⟩, 111)]
theorem lw_r9 : ∀ q ∈ lw_privs_9, lw_okq q := List.forall_mem_cons.mpr ⟨lw_p128, List.forall_mem_cons.mpr ⟨lw_p129, List.forall_mem_cons.mpr ⟨lw_p130, List.forall_mem_cons.mpr ⟨lw_p131, List.forall_mem_cons.mpr ⟨lw_p132, List.forall_mem_cons.mpr ⟨lw_p133, List.forall_mem_cons.mpr ⟨lw_p134, List.forall_mem_cons.mpr ⟨lw_p135, List.forall_mem_cons.mpr ⟨lw_p136, List.forall_mem_cons.mpr ⟨lw_p137, List.forall_mem_cons.mpr ⟨lw_p138, List.forall_mem_cons.mpr ⟨lw_p139, fun _ h => absurd h List.not_mem_nil⟩⟩⟩⟩⟩⟩⟩⟩⟩⟩⟩⟩
def lw_privs : List (MethodName × Nat) := lw_privs_1 ++ (lw_privs_2 ++ (lw_privs_3 ++ (lw_privs_4 ++ (lw_privs_5 ++ (lw_privs_6 ++ (lw_privs_7 ++ (lw_privs_8 ++ (lw_privs_9))))))))
def lw_tbl : List Cond := k2_sels lw_privs ++ tables_1
theorem lw_privs_ok : ∀ q ∈ lw_privs, lw_okq q := by
  show ∀ q ∈ lw_privs_1 ++ (lw_privs_2 ++ (lw_privs_3 ++ (lw_privs_4 ++ (lw_privs_5 ++ (lw_privs_6 ++ (lw_privs_7 ++ (lw_privs_8 ++ (lw_privs_9)))))))), lw_okq q
  exact List.forall_mem_append.mpr ⟨lw_r1, List.forall_mem_append.mpr ⟨lw_r2, List.forall_mem_append.mpr ⟨lw_r3, List.forall_mem_append.mpr ⟨lw_r4, List.forall_mem_append.mpr ⟨lw_r5, List.forall_mem_append.mpr ⟨lw_r6, List.forall_mem_append.mpr ⟨lw_r7, List.forall_mem_append.mpr ⟨lw_r8, lw_r9⟩⟩⟩⟩⟩⟩⟩⟩
end
section
def RX0 : String := "EmptyHat$Ahead"
def TX0 : u_T := fun k => match k with
  | 0 => ("EmptyHat$Ahead", "debts", "[I", true)
  | 1 => ("EmptyHat$Ahead", "beliefs", "[I", true)
  | 2 => ("EmptyHat$Ahead", "throughs", "[I", true)
  | 3 => ("EmptyHat$Ahead", "coins", "[I", true)
  | 4 => ("EmptyHat$Ahead", "pair", "[I", true)
  | 5 => ("EmptyHat$Ahead", "stage", "LEmptyHat$Stage;", true)
  | 6 => ("EmptyHat$Ahead", "front", "LEmptyHat$State;", true)
  | 7 => ("EmptyHat$Ahead", "ripe", "LEmptyHat$State;", true)
  | 8 => ("EmptyHat$Ahead", "between", "LEmptyHat$State;", true)
  | 9 => ("EmptyHat$Ahead", "behind", "LEmptyHat$State;", true)
  | 10 => ("EmptyHat$Ahead", "now", "[I", true)
  | 11 => ("EmptyHat$Ahead", "unshown", "[I", true)
  | 12 => ("EmptyHat$Ahead", "again", "[I", true)
  | 13 => ("EmptyHat$Ahead", "next", "[I", true)
  | 14 => ("EmptyHat$Ahead", "reached", "I", false)
  | _ => ("EmptyHat$Ahead", "paired", "Z", false)
def tyX0 : Nat → FieldType := fun k => match k with
  | 0 => .array .int
  | 1 => .array .int
  | 2 => .array .int
  | 3 => .array .int
  | 4 => .array .int
  | 5 => .object "EmptyHat$Stage"
  | 6 => .object "EmptyHat$State"
  | 7 => .object "EmptyHat$State"
  | 8 => .object "EmptyHat$State"
  | 9 => .object "EmptyHat$State"
  | 10 => .array .int
  | 11 => .array .int
  | 12 => .array .int
  | 13 => .array .int
  | 14 => .int
  | _ => .boolean
abbrev wsX00 : List Cond := u_ws RX0 TX0 16
theorem nmX0 : ∀ a, a < 16 → ∀ b, b < 16 → a ≠ b → (TX0 a).2.1 ≠ (TX0 b).2.1 := by decide +kernel
theorem tyX0_ok : ∀ k, k < 16 → parseFieldDescriptor (TX0 k).2.2.1 = some (tyX0 k) := by decide +kernel
abbrev cX0_init : ByteArray := prog_2_method_1_code
def yX0_init : MethodName := ⟨RX0, "<init>", "(LEmptyHat$Stage;)V"⟩
abbrev cX0_forget : ByteArray := prog_2_method_2_code
def yX0_forget : MethodName := ⟨RX0, "forget", "()V"⟩
abbrev cX0_reach : ByteArray := prog_2_method_3_code
def yX0_reach : MethodName := ⟨RX0, "reach", "(LEmptyHat$State;I)Z"⟩
abbrev cX0_worth : ByteArray := prog_2_method_4_code
def yX0_worth : MethodName := ⟨RX0, "worth", "(I)I"⟩
abbrev cX0_findPair : ByteArray := prog_2_method_5_code
def yX0_findPair : MethodName := ⟨RX0, "findPair", "(LEmptyHat$State;)V"⟩
abbrev cX0_lookAhead : ByteArray := prog_2_method_6_code
def yX0_lookAhead : MethodName := ⟨RX0, "lookAhead", "(I)V"⟩
abbrev cX0_pairWith : ByteArray := prog_2_method_7_code
def yX0_pairWith : MethodName := ⟨RX0, "pairWith", "(I)V"⟩
abbrev cX0_note : ByteArray := prog_2_method_8_code
def yX0_note : MethodName := ⟨RX0, "note", "(I)V"⟩
def RX1 : String := "EmptyHat$Counted"
def TX1 : u_T := fun k => match k with
  | 0 => ("EmptyHat$Counted", "rows", "I", false)
  | 1 => ("EmptyHat$Counted", "fitting", "I", false)
  | 2 => ("EmptyHat$Counted", "chosen", "I", false)
  | 3 => ("EmptyHat$Counted", "chosenLeft", "I", false)
  | 4 => ("EmptyHat$Counted", "stage", "LEmptyHat$Stage;", true)
  | 5 => ("EmptyHat$Counted", "provinces", "[I", true)
  | 6 => ("EmptyHat$Counted", "stores", "[I", true)
  | 7 => ("EmptyHat$Counted", "fits", "[I", true)
  | _ => ("EmptyHat$Counted", "lefts", "[[I", true)
def tyX1 : Nat → FieldType := fun k => match k with
  | 0 => .int
  | 1 => .int
  | 2 => .int
  | 3 => .int
  | 4 => .object "EmptyHat$Stage"
  | 5 => .array .int
  | 6 => .array .int
  | 7 => .array .int
  | _ => .array (.array .int)
abbrev wsX10 : List Cond := u_ws RX1 TX1 9
theorem nmX1 : ∀ a, a < 9 → ∀ b, b < 9 → a ≠ b → (TX1 a).2.1 ≠ (TX1 b).2.1 := by decide +kernel
theorem tyX1_ok : ∀ k, k < 9 → parseFieldDescriptor (TX1 k).2.2.1 = some (tyX1 k) := by decide +kernel
abbrev cX1_init : ByteArray := prog_3_method_1_code
def yX1_init : MethodName := ⟨RX1, "<init>", "(LEmptyHat$Stage;)V"⟩
abbrev cX1_readFrom : ByteArray := prog_3_method_2_code
def yX1_readFrom : MethodName := ⟨RX1, "readFrom", "(LEmptyHat$Text;)Z"⟩
abbrev cX1_find : ByteArray := prog_3_method_3_code
def yX1_find : MethodName := ⟨RX1, "find", "(LEmptyHat$State;)V"⟩
abbrev cX1_inAll : ByteArray := prog_3_method_4_code
def yX1_inAll : MethodName := ⟨RX1, "inAll", "()I"⟩
abbrev cX1_inSome : ByteArray := prog_3_method_5_code
def yX1_inSome : MethodName := ⟨RX1, "inSome", "()I"⟩
abbrev cX1_choose : ByteArray := prog_3_method_6_code
def yX1_choose : MethodName := ⟨RX1, "choose", "()V"⟩
abbrev cX1_addFitting : ByteArray := prog_3_method_7_code
def yX1_addFitting : MethodName := ⟨RX1, "addFitting", "(I)V"⟩
abbrev cX1_isSo : ByteArray := prog_3_method_8_code
def yX1_isSo : MethodName := ⟨RX1, "isSo", "()Z"⟩
abbrev cX1_mostLeft : ByteArray := prog_3_method_9_code
def yX1_mostLeft : MethodName := ⟨RX1, "mostLeft", "([I)I"⟩
def RX2 : String := "EmptyHat$Crown"
def TX2 : u_T := fun k => match k with
  | 0 => ("EmptyHat$Crown", "need", "I", false)
  | 1 => ("EmptyHat$Crown", "debt", "I", false)
  | 2 => ("EmptyHat$Crown", "rate", "I", false)
  | 3 => ("EmptyHat$Crown", "belief", "I", false)
  | 4 => ("EmptyHat$Crown", "boys", "I", false)
  | 5 => ("EmptyHat$Crown", "counts", "[I", true)
  | 6 => ("EmptyHat$Crown", "names", "[[I", true)
  | 7 => ("EmptyHat$Crown", "stores", "[I", true)
  | 8 => ("EmptyHat$Crown", "yields", "[I", true)
  | 9 => ("EmptyHat$Crown", "takes", "[I", true)
  | 10 => ("EmptyHat$Crown", "from", "[I", true)
  | 11 => ("EmptyHat$Crown", "look", "[I", true)
  | 12 => ("EmptyHat$Crown", "seats", "[I", true)
  | 13 => ("EmptyHat$Crown", "glass", "[I", true)
  | 14 => ("EmptyHat$Crown", "sees", "LEmptyHat$Formula;", true)
  | _ => ("EmptyHat$Crown", "loses", "LEmptyHat$Formula;", true)
def tyX2 : Nat → FieldType := fun k => match k with
  | 0 => .int
  | 1 => .int
  | 2 => .int
  | 3 => .int
  | 4 => .int
  | 5 => .array .int
  | 6 => .array (.array .int)
  | 7 => .array .int
  | 8 => .array .int
  | 9 => .array .int
  | 10 => .array .int
  | 11 => .array .int
  | 12 => .array .int
  | 13 => .array .int
  | 14 => .object "EmptyHat$Formula"
  | _ => .object "EmptyHat$Formula"
abbrev wsX20 : List Cond := u_ws RX2 TX2 16
theorem nmX2 : ∀ a, a < 16 → ∀ b, b < 16 → a ≠ b → (TX2 a).2.1 ≠ (TX2 b).2.1 := by decide +kernel
theorem tyX2_ok : ∀ k, k < 16 → parseFieldDescriptor (TX2 k).2.2.1 = some (tyX2 k) := by decide +kernel
abbrev cX2_init : ByteArray := prog_4_method_1_code
def yX2_init : MethodName := ⟨RX2, "<init>", "()V"⟩
abbrev cX2_clear : ByteArray := prog_4_method_2_code
def yX2_clear : MethodName := ⟨RX2, "clear", "()V"⟩
abbrev cX2_holds : ByteArray := prog_4_method_3_code
def yX2_holds : MethodName := ⟨RX2, "holds", "(II)Z"⟩
abbrev cX2_numberOf : ByteArray := prog_4_method_4_code
def yX2_numberOf : MethodName := ⟨RX2, "numberOf", "(II)I"⟩
abbrev cX2_tricksFrom : ByteArray := prog_4_method_5_code
def yX2_tricksFrom : MethodName := ⟨RX2, "tricksFrom", "(I)I"⟩
def RX3 : String := "EmptyHat$CrownReader"
def TX3 : u_T := fun k => match k with
  | 0 => ("EmptyHat$CrownReader", "text", "LEmptyHat$Text;", true)
  | 1 => ("EmptyHat$CrownReader", "reader", "LEmptyHat$Reader;", true)
  | 2 => ("EmptyHat$CrownReader", "crown", "LEmptyHat$Crown;", false)
  | 3 => ("EmptyHat$CrownReader", "toldOnce", "I", false)
  | _ => ("EmptyHat$CrownReader", "statements", "I", false)
def tyX3 : Nat → FieldType := fun k => match k with
  | 0 => .object "EmptyHat$Text"
  | 1 => .object "EmptyHat$Reader"
  | 2 => .object "EmptyHat$Crown"
  | 3 => .int
  | _ => .int
abbrev wsX30 : List Cond := u_ws RX3 TX3 5
theorem nmX3 : ∀ a, a < 5 → ∀ b, b < 5 → a ≠ b → (TX3 a).2.1 ≠ (TX3 b).2.1 := by decide +kernel
theorem tyX3_ok : ∀ k, k < 5 → parseFieldDescriptor (TX3 k).2.2.1 = some (tyX3 k) := by decide +kernel
abbrev cX3_init : ByteArray := prog_5_method_1_code
def yX3_init : MethodName := ⟨RX3, "<init>", "(LEmptyHat$Text;LEmptyHat$Crown;)V"⟩
abbrev cX3_readInto : ByteArray := prog_5_method_2_code
def yX3_readInto : MethodName := ⟨RX3, "readInto", "(LEmptyHat$Crown;)Z"⟩
abbrev cX3_treasury : ByteArray := prog_5_method_3_code
def yX3_treasury : MethodName := ⟨RX3, "treasury", "()Z"⟩
abbrev cX3_statement : ByteArray := prog_5_method_4_code
def yX3_statement : MethodName := ⟨RX3, "statement", "()Z"⟩
abbrev cX3_oneMore : ByteArray := prog_5_method_5_code
def yX3_oneMore : MethodName := ⟨RX3, "oneMore", "(II)Z"⟩
abbrev cX3_onlyOne : ByteArray := prog_5_method_6_code
def yX3_onlyOne : MethodName := ⟨RX3, "onlyOne", "()Z"⟩
abbrev cX3_newProvince : ByteArray := prog_5_method_7_code
def yX3_newProvince : MethodName := ⟨RX3, "newProvince", "()Z"⟩
abbrev cX3_newTrick : ByteArray := prog_5_method_8_code
def yX3_newTrick : MethodName := ⟨RX3, "newTrick", "()Z"⟩
abbrev cX3_newWatcher : ByteArray := prog_5_method_9_code
def yX3_newWatcher : MethodName := ⟨RX3, "newWatcher", "()Z"⟩
abbrev cX3_beliefAtFirst : ByteArray := prog_5_method_10_code
def yX3_beliefAtFirst : MethodName := ⟨RX3, "beliefAtFirst", "()Z"⟩
abbrev cX3_boysOfHundred : ByteArray := prog_5_method_11_code
def yX3_boysOfHundred : MethodName := ⟨RX3, "boysOfHundred", "()Z"⟩
def RX4 : String := "EmptyHat$Formula"
def TX4 : u_T := fun k => match k with
  | 0 => ("EmptyHat$Formula", "codes", "[I", true)
  | 1 => ("EmptyHat$Formula", "stack", "[I", true)
  | _ => ("EmptyHat$Formula", "length", "I", false)
def tyX4 : Nat → FieldType := fun k => match k with
  | 0 => .array .int
  | 1 => .array .int
  | _ => .int
abbrev wsX40 : List Cond := u_ws RX4 TX4 3
theorem nmX4 : ∀ a, a < 3 → ∀ b, b < 3 → a ≠ b → (TX4 a).2.1 ≠ (TX4 b).2.1 := by decide +kernel
theorem tyX4_ok : ∀ k, k < 3 → parseFieldDescriptor (TX4 k).2.2.1 = some (tyX4 k) := by decide +kernel
abbrev cX4_init : ByteArray := prog_6_method_1_code
def yX4_init : MethodName := ⟨RX4, "<init>", "()V"⟩
abbrev cX4_clear : ByteArray := prog_6_method_2_code
def yX4_clear : MethodName := ⟨RX4, "clear", "()V"⟩
abbrev cX4_add : ByteArray := prog_6_method_3_code
def yX4_add : MethodName := ⟨RX4, "add", "(I)V"⟩
abbrev cX4_value : ByteArray := prog_6_method_4_code
def yX4_value : MethodName := ⟨RX4, "value", "([I)I"⟩
abbrev cX4_factAt : ByteArray := prog_6_method_5_code
def yX4_factAt : MethodName := ⟨RX4, "factAt", "([II)I"⟩
abbrev cX4_single : ByteArray := prog_6_method_6_code
def yX4_single : MethodName := ⟨RX4, "single", "(II[I)I"⟩
abbrev cX4_joined : ByteArray := prog_6_method_7_code
def yX4_joined : MethodName := ⟨RX4, "joined", "(IJJ)J"⟩
abbrev cX4_bounded : ByteArray := prog_6_method_8_code
def yX4_bounded : MethodName := ⟨RX4, "bounded", "(J)I"⟩
def RX5 : String := "EmptyHat$Image"
def TX5 : u_T := fun k => match k with
  | 0 => ("EmptyHat$Image", "bytes", "[I", true)
  | 1 => ("EmptyHat$Image", "length", "I", false)
  | _ => ("EmptyHat$Image", "at", "I", false)
def tyX5 : Nat → FieldType := fun k => match k with
  | 0 => .array .int
  | 1 => .int
  | _ => .int
abbrev wsX50 : List Cond := u_ws RX5 TX5 3
theorem nmX5 : ∀ a, a < 3 → ∀ b, b < 3 → a ≠ b → (TX5 a).2.1 ≠ (TX5 b).2.1 := by decide +kernel
theorem tyX5_ok : ∀ k, k < 3 → parseFieldDescriptor (TX5 k).2.2.1 = some (tyX5 k) := by decide +kernel
abbrev cX5_init : ByteArray := prog_7_method_1_code
def yX5_init : MethodName := ⟨RX5, "<init>", "()V"⟩
abbrev cX5_write : ByteArray := prog_7_method_2_code
def yX5_write : MethodName := ⟨RX5, "write", "(LEmptyHat$State;LEmptyHat$Crown;)V"⟩
abbrev cX5_readable : ByteArray := prog_7_method_3_code
def yX5_readable : MethodName := ⟨RX5, "readable", "(LEmptyHat$Text;LEmptyHat$Crown;)Z"⟩
abbrev cX5_read : ByteArray := prog_7_method_4_code
def yX5_read : MethodName := ⟨RX5, "read", "(LEmptyHat$Text;LEmptyHat$Crown;LEmptyHat$State;)V"⟩
abbrev cX5_put : ByteArray := prog_7_method_5_code
def yX5_put : MethodName := ⟨RX5, "put", "(II)V"⟩
abbrev cX5_take : ByteArray := prog_7_method_6_code
def yX5_take : MethodName := ⟨RX5, "take", "(LEmptyHat$Text;I)I"⟩
abbrev cX5_isChecked : ByteArray := prog_7_method_7_code
def yX5_isChecked : MethodName := ⟨RX5, "isChecked", "(LEmptyHat$Text;)Z"⟩
def RX6 : String := "EmptyHat$Question"
def TX6 : u_T := fun k => match k with
  | 0 => ("EmptyHat$Question", "text", "LEmptyHat$Text;", true)
  | 1 => ("EmptyHat$Question", "reader", "LEmptyHat$Reader;", true)
  | 2 => ("EmptyHat$Question", "formula", "LEmptyHat$Formula;", true)
  | 3 => ("EmptyHat$Question", "facts", "[I", true)
  | _ => ("EmptyHat$Question", "verb", "I", false)
def tyX6 : Nat → FieldType := fun k => match k with
  | 0 => .object "EmptyHat$Text"
  | 1 => .object "EmptyHat$Reader"
  | 2 => .object "EmptyHat$Formula"
  | 3 => .array .int
  | _ => .int
abbrev wsX60 : List Cond := u_ws RX6 TX6 5
theorem nmX6 : ∀ a, a < 5 → ∀ b, b < 5 → a ≠ b → (TX6 a).2.1 ≠ (TX6 b).2.1 := by decide +kernel
theorem tyX6_ok : ∀ k, k < 5 → parseFieldDescriptor (TX6 k).2.2.1 = some (tyX6 k) := by decide +kernel
abbrev cX6_init : ByteArray := prog_8_method_1_code
def yX6_init : MethodName := ⟨RX6, "<init>", "(LEmptyHat$Text;)V"⟩
abbrev cX6_readAll : ByteArray := prog_8_method_2_code
def yX6_readAll : MethodName := ⟨RX6, "readAll", "()Z"⟩
abbrev cX6_answer : ByteArray := prog_8_method_3_code
def yX6_answer : MethodName := ⟨RX6, "answer", "(LEmptyHat$Stage;LEmptyHat$State;)J"⟩
abbrev cX6_with : ByteArray := prog_8_method_4_code
def yX6_with : MethodName := ⟨RX6, "with", "(JII)J"⟩
def RX7 : String := "EmptyHat$Reader"
def TX7 : u_T := fun k => match k with
  | 0 => ("EmptyHat$Reader", "text", "LEmptyHat$Text;", true)
  | 1 => ("EmptyHat$Reader", "formula", "LEmptyHat$Formula;", false)
  | _ => ("EmptyHat$Reader", "parts", "I", false)
def tyX7 : Nat → FieldType := fun k => match k with
  | 0 => .object "EmptyHat$Text"
  | 1 => .object "EmptyHat$Formula"
  | _ => .int
abbrev wsX70 : List Cond := u_ws RX7 TX7 3
theorem nmX7 : ∀ a, a < 3 → ∀ b, b < 3 → a ≠ b → (TX7 a).2.1 ≠ (TX7 b).2.1 := by decide +kernel
theorem tyX7_ok : ∀ k, k < 3 → parseFieldDescriptor (TX7 k).2.2.1 = some (tyX7 k) := by decide +kernel
abbrev cX7_init : ByteArray := prog_9_method_1_code
def yX7_init : MethodName := ⟨RX7, "<init>", "(LEmptyHat$Text;LEmptyHat$Formula;)V"⟩
abbrev cX7_readSum : ByteArray := prog_9_method_2_code
def yX7_readSum : MethodName := ⟨RX7, "readSum", "(LEmptyHat$Formula;I)Z"⟩
abbrev cX7_readTest : ByteArray := prog_9_method_3_code
def yX7_readTest : MethodName := ⟨RX7, "readTest", "(LEmptyHat$Formula;I)Z"⟩
abbrev cX7_aim : ByteArray := prog_9_method_4_code
def yX7_aim : MethodName := ⟨RX7, "aim", "(LEmptyHat$Formula;I)V"⟩
abbrev cX7_test : ByteArray := prog_9_method_5_code
def yX7_test : MethodName := ⟨RX7, "test", "(I)Z"⟩
abbrev cX7_facts : ByteArray := prog_9_method_6_code
def yX7_facts : MethodName := ⟨RX7, "facts", "(I)Z"⟩
abbrev cX7_fact : ByteArray := prog_9_method_7_code
def yX7_fact : MethodName := ⟨RX7, "fact", "(I)Z"⟩
abbrev cX7_compared : ByteArray := prog_9_method_8_code
def yX7_compared : MethodName := ⟨RX7, "compared", "(I)Z"⟩
abbrev cX7_sum : ByteArray := prog_9_method_9_code
def yX7_sum : MethodName := ⟨RX7, "sum", "(I)Z"⟩
abbrev cX7_product : ByteArray := prog_9_method_10_code
def yX7_product : MethodName := ⟨RX7, "product", "(I)Z"⟩
abbrev cX7_part : ByteArray := prog_9_method_11_code
def yX7_part : MethodName := ⟨RX7, "part", "(I)Z"⟩
abbrev cX7_oneOfTwo : ByteArray := prog_9_method_12_code
def yX7_oneOfTwo : MethodName := ⟨RX7, "oneOfTwo", "(I)Z"⟩
abbrev cX7_isPart : ByteArray := prog_9_method_13_code
def yX7_isPart : MethodName := ⟨RX7, "isPart", "()Z"⟩
abbrev cX7_opens : ByteArray := prog_9_method_14_code
def yX7_opens : MethodName := ⟨RX7, "opens", "(I)Z"⟩
def RX8 : String := "EmptyHat$Stage"
def TX8 : u_T := fun k => match k with
  | 0 => ("EmptyHat$Stage", "crown", "LEmptyHat$Crown;", false)
  | 1 => ("EmptyHat$Stage", "sights", "[I", true)
  | 2 => ("EmptyHat$Stage", "left", "[I", true)
  | 3 => ("EmptyHat$Stage", "chosen", "I", false)
  | 4 => ("EmptyHat$Stage", "chosenAppears", "I", false)
  | 5 => ("EmptyHat$Stage", "chosenSight", "I", false)
  | 6 => ("EmptyHat$Stage", "facts", "[I", true)
  | _ => ("EmptyHat$Stage", "seenBy", "[I", true)
def tyX8 : Nat → FieldType := fun k => match k with
  | 0 => .object "EmptyHat$Crown"
  | 1 => .array .int
  | 2 => .array .int
  | 3 => .int
  | 4 => .int
  | 5 => .int
  | 6 => .array .int
  | _ => .array .int
abbrev wsX80 : List Cond := u_ws RX8 TX8 8
theorem nmX8 : ∀ a, a < 8 → ∀ b, b < 8 → a ≠ b → (TX8 a).2.1 ≠ (TX8 b).2.1 := by decide +kernel
theorem tyX8_ok : ∀ k, k < 8 → parseFieldDescriptor (TX8 k).2.2.1 = some (tyX8 k) := by decide +kernel
abbrev cX8_init : ByteArray := prog_10_method_1_code
def yX8_init : MethodName := ⟨RX8, "<init>", "(LEmptyHat$Crown;)V"⟩
abbrev cX8_glimpse : ByteArray := prog_10_method_2_code
def yX8_glimpse : MethodName := ⟨RX8, "glimpse", "(LEmptyHat$State;III)I"⟩
abbrev cX8_sightOfTrick : ByteArray := prog_10_method_3_code
def yX8_sightOfTrick : MethodName := ⟨RX8, "sightOfTrick", "(LEmptyHat$State;I)I"⟩
abbrev cX8_sightFrom : ByteArray := prog_10_method_4_code
def yX8_sightFrom : MethodName := ⟨RX8, "sightFrom", "(LEmptyHat$State;II)I"⟩
abbrev cX8_lookAtAll : ByteArray := prog_10_method_5_code
def yX8_lookAtAll : MethodName := ⟨RX8, "lookAtAll", "(LEmptyHat$State;)V"⟩
abbrev cX8_describe : ByteArray := prog_10_method_6_code
def yX8_describe : MethodName := ⟨RX8, "describe", "(LEmptyHat$State;I[I)V"⟩
abbrev cX8_showable : ByteArray := prog_10_method_7_code
def yX8_showable : MethodName := ⟨RX8, "showable", "(LEmptyHat$State;)I"⟩
abbrev cX8_ripen : ByteArray := prog_10_method_8_code
def yX8_ripen : MethodName := ⟨RX8, "ripen", "(LEmptyHat$State;)V"⟩
abbrev cX8_takeAll : ByteArray := prog_10_method_9_code
def yX8_takeAll : MethodName := ⟨RX8, "takeAll", "(LEmptyHat$State;I)I"⟩
abbrev cX8_choose : ByteArray := prog_10_method_10_code
def yX8_choose : MethodName := ⟨RX8, "choose", "(LEmptyHat$State;)V"⟩
abbrev cX8_isBetter : ByteArray := prog_10_method_11_code
def yX8_isBetter : MethodName := ⟨RX8, "isBetter", "(III)Z"⟩
abbrev cX8_sightOfShow : ByteArray := prog_10_method_12_code
def yX8_sightOfShow : MethodName := ⟨RX8, "sightOfShow", "(I)I"⟩
abbrev cX8_passYear : ByteArray := prog_10_method_13_code
def yX8_passYear : MethodName := ⟨RX8, "passYear", "(LEmptyHat$State;)I"⟩
abbrev cX8_give : ByteArray := prog_10_method_14_code
def yX8_give : MethodName := ⟨RX8, "give", "(LEmptyHat$State;I[I)I"⟩
abbrev cX8_loseBelief : ByteArray := prog_10_method_15_code
def yX8_loseBelief : MethodName := ⟨RX8, "loseBelief", "(LEmptyHat$State;I)V"⟩
abbrev cX8_pay : ByteArray := prog_10_method_16_code
def yX8_pay : MethodName := ⟨RX8, "pay", "(LEmptyHat$State;I)V"⟩
abbrev cX8_fewestWatchers : ByteArray := prog_10_method_17_code
def yX8_fewestWatchers : MethodName := ⟨RX8, "fewestWatchers", "(LEmptyHat$State;I)I"⟩
abbrev cX8_seenByAny : ByteArray := prog_10_method_18_code
def yX8_seenByAny : MethodName := ⟨RX8, "seenByAny", "(I)I"⟩
def RX9 : String := "EmptyHat$State"
def TX9 : u_T := fun k => match k with
  | 0 => ("EmptyHat$State", "year", "I", false)
  | 1 => ("EmptyHat$State", "debt", "I", false)
  | 2 => ("EmptyHat$State", "belief", "I", false)
  | 3 => ("EmptyHat$State", "stores", "[I", true)
  | 4 => ("EmptyHat$State", "shown", "[I", true)
  | 5 => ("EmptyHat$State", "known", "[I", true)
  | 6 => ("EmptyHat$State", "seats", "[I", true)
  | 7 => ("EmptyHat$State", "keptRows", "I", false)
  | _ => ("EmptyHat$State", "keptCells", "[I", true)
def tyX9 : Nat → FieldType := fun k => match k with
  | 0 => .int
  | 1 => .int
  | 2 => .int
  | 3 => .array .int
  | 4 => .array .int
  | 5 => .array .int
  | 6 => .array .int
  | 7 => .int
  | _ => .array .int
abbrev wsX90 : List Cond := u_ws RX9 TX9 9
theorem nmX9 : ∀ a, a < 9 → ∀ b, b < 9 → a ≠ b → (TX9 a).2.1 ≠ (TX9 b).2.1 := by decide +kernel
theorem tyX9_ok : ∀ k, k < 9 → parseFieldDescriptor (TX9 k).2.2.1 = some (tyX9 k) := by decide +kernel
abbrev cX9_init : ByteArray := prog_11_method_1_code
def yX9_init : MethodName := ⟨RX9, "<init>", "()V"⟩
abbrev cX9_startOf : ByteArray := prog_11_method_2_code
def yX9_startOf : MethodName := ⟨RX9, "startOf", "(LEmptyHat$Crown;)V"⟩
abbrev cX9_copy : ByteArray := prog_11_method_3_code
def yX9_copy : MethodName := ⟨RX9, "copy", "(LEmptyHat$State;)V"⟩
abbrev cX9_keep : ByteArray := prog_11_method_4_code
def yX9_keep : MethodName := ⟨RX9, "keep", "(I)V"⟩
abbrev cX9_seenThrough : ByteArray := prog_11_method_5_code
def yX9_seenThrough : MethodName := ⟨RX9, "seenThrough", "()I"⟩
abbrev cX9_allStores : ByteArray := prog_11_method_6_code
def yX9_allStores : MethodName := ⟨RX9, "allStores", "()I"⟩
def RX10 : String := "EmptyHat$Text"
def TX10 : u_T := fun k => match k with
  | 0 => ("EmptyHat$Text", "bytes", "[B", true)
  | 1 => ("EmptyHat$Text", "length", "I", false)
  | 2 => ("EmptyHat$Text", "fault", "I", false)
  | 3 => ("EmptyHat$Text", "place", "I", false)
  | 4 => ("EmptyHat$Text", "kind", "I", false)
  | 5 => ("EmptyHat$Text", "start", "I", false)
  | 6 => ("EmptyHat$Text", "value", "I", false)
  | 7 => ("EmptyHat$Text", "name", "I", false)
  | 8 => ("EmptyHat$Text", "number", "I", false)
  | 9 => ("EmptyHat$Text", "past", "I", false)
  | _ => ("EmptyHat$Text", "words", "[I", true)
def tyX10 : Nat → FieldType := fun k => match k with
  | 0 => .array .byte
  | 1 => .int
  | 2 => .int
  | 3 => .int
  | 4 => .int
  | 5 => .int
  | 6 => .int
  | 7 => .int
  | 8 => .int
  | 9 => .int
  | _ => .array .int
abbrev wsX100 : List Cond := u_ws RX10 TX10 11
theorem nmX10 : ∀ a, a < 11 → ∀ b, b < 11 → a ≠ b → (TX10 a).2.1 ≠ (TX10 b).2.1 := by decide +kernel
theorem tyX10_ok : ∀ k, k < 11 → parseFieldDescriptor (TX10 k).2.2.1 = some (tyX10 k) := by decide +kernel
abbrev cX10_init : ByteArray := prog_12_method_1_code
def yX10_init : MethodName := ⟨RX10, "<init>", "()V"⟩
abbrev cX10_append : ByteArray := prog_12_method_2_code
def yX10_append : MethodName := ⟨RX10, "append", "(I)V"⟩
abbrev cX10_byteAt : ByteArray := prog_12_method_3_code
def yX10_byteAt : MethodName := ⟨RX10, "byteAt", "(I)I"⟩
abbrev cX10_begin : ByteArray := prog_12_method_4_code
def yX10_begin : MethodName := ⟨RX10, "begin", "()V"⟩
abbrev cX10_next : ByteArray := prog_12_method_5_code
def yX10_next : MethodName := ⟨RX10, "next", "()V"⟩
abbrev cX10_wrong : ByteArray := prog_12_method_6_code
def yX10_wrong : MethodName := ⟨RX10, "wrong", "(II)Z"⟩
abbrev cX10_isWord : ByteArray := prog_12_method_7_code
def yX10_isWord : MethodName := ⟨RX10, "isWord", "(I)Z"⟩
abbrev cX10_isSign : ByteArray := prog_12_method_8_code
def yX10_isSign : MethodName := ⟨RX10, "isSign", "(C)Z"⟩
abbrev cX10_takeWord : ByteArray := prog_12_method_9_code
def yX10_takeWord : MethodName := ⟨RX10, "takeWord", "(I)Z"⟩
abbrev cX10_takeSign : ByteArray := prog_12_method_10_code
def yX10_takeSign : MethodName := ⟨RX10, "takeSign", "(C)Z"⟩
abbrev cX10_takeNumber : ByteArray := prog_12_method_11_code
def yX10_takeNumber : MethodName := ⟨RX10, "takeNumber", "(II)Z"⟩
abbrev cX10_nameHere : ByteArray := prog_12_method_12_code
def yX10_nameHere : MethodName := ⟨RX10, "nameHere", "()Z"⟩
abbrev cX10_readWord : ByteArray := prog_12_method_13_code
def yX10_readWord : MethodName := ⟨RX10, "readWord", "()V"⟩
abbrev cX10_readDigits : ByteArray := prog_12_method_14_code
def yX10_readDigits : MethodName := ⟨RX10, "readDigits", "()V"⟩
def RX11 : String := "EmptyHat"
def TX11 : u_T := fun k => match k with
  | 0 => ("EmptyHat", "text", "LEmptyHat$Text;", true)
  | 1 => ("EmptyHat", "crown", "LEmptyHat$Crown;", false)
  | 2 => ("EmptyHat", "spare", "LEmptyHat$Crown;", false)
  | 3 => ("EmptyHat", "crownReader", "LEmptyHat$CrownReader;", true)
  | 4 => ("EmptyHat", "question", "LEmptyHat$Question;", true)
  | 5 => ("EmptyHat", "stage", "LEmptyHat$Stage;", true)
  | 6 => ("EmptyHat", "ahead", "LEmptyHat$Ahead;", true)
  | 7 => ("EmptyHat", "counted", "LEmptyHat$Counted;", true)
  | 8 => ("EmptyHat", "image", "LEmptyHat$Image;", true)
  | 9 => ("EmptyHat", "state", "LEmptyHat$State;", true)
  | 10 => ("EmptyHat", "scratch", "LEmptyHat$State;", true)
  | 11 => ("EmptyHat", "past", "[LEmptyHat$State;", true)
  | 12 => ("EmptyHat", "refused", "[I", true)
  | 13 => ("EmptyHat", "crowned", "Z", false)
  | 14 => ("EmptyHat", "firstPast", "I", false)
  | 15 => ("EmptyHat", "pastActs", "I", false)
  | _ => ("EmptyHat", "seed", "I", false)
def tyX11 : Nat → FieldType := fun k => match k with
  | 0 => .object "EmptyHat$Text"
  | 1 => .object "EmptyHat$Crown"
  | 2 => .object "EmptyHat$Crown"
  | 3 => .object "EmptyHat$CrownReader"
  | 4 => .object "EmptyHat$Question"
  | 5 => .object "EmptyHat$Stage"
  | 6 => .object "EmptyHat$Ahead"
  | 7 => .object "EmptyHat$Counted"
  | 8 => .object "EmptyHat$Image"
  | 9 => .object "EmptyHat$State"
  | 10 => .object "EmptyHat$State"
  | 11 => .array (.object "EmptyHat$State")
  | 12 => .array .int
  | 13 => .boolean
  | 14 => .int
  | 15 => .int
  | _ => .int
abbrev wsX110 : List Cond := u_ws RX11 TX11 17
theorem nmX11 : ∀ a, a < 17 → ∀ b, b < 17 → a ≠ b → (TX11 a).2.1 ≠ (TX11 b).2.1 := by decide +kernel
theorem tyX11_ok : ∀ k, k < 17 → parseFieldDescriptor (TX11 k).2.2.1 = some (tyX11 k) := by decide +kernel
abbrev cX11_init : ByteArray := prog_1_method_1_code
def yX11_init : MethodName := ⟨RX11, "<init>", "()V"⟩
abbrev cX11_feed : ByteArray := prog_1_method_2_code
def yX11_feed : MethodName := ⟨RX11, "feed", "(IIIII)I"⟩
abbrev cX11_end : ByteArray := prog_1_method_3_code
def yX11_end : MethodName := ⟨RX11, "end", "(I)Z"⟩
abbrev cX11_crown : ByteArray := prog_1_method_4_code
def yX11_crown : MethodName := ⟨RX11, "crown", "()I"⟩
abbrev cX11_fault : ByteArray := prog_1_method_5_code
def yX11_fault : MethodName := ⟨RX11, "fault", "(I)I"⟩
abbrev cX11_has : ByteArray := prog_1_method_6_code
def yX11_has : MethodName := ⟨RX11, "has", "(I)I"⟩
abbrev cX11_letter : ByteArray := prog_1_method_7_code
def yX11_letter : MethodName := ⟨RX11, "letter", "(III)I"⟩
abbrev cX11_province : ByteArray := prog_1_method_8_code
def yX11_province : MethodName := ⟨RX11, "province", "(II)I"⟩
abbrev cX11_trick : ByteArray := prog_1_method_9_code
def yX11_trick : MethodName := ⟨RX11, "trick", "(II)I"⟩
abbrev cX11_watcher : ByteArray := prog_1_method_10_code
def yX11_watcher : MethodName := ⟨RX11, "watcher", "(II)I"⟩
abbrev cX11_sight : ByteArray := prog_1_method_11_code
def yX11_sight : MethodName := ⟨RX11, "sight", "(II)I"⟩
abbrev cX11_kept : ByteArray := prog_1_method_12_code
def yX11_kept : MethodName := ⟨RX11, "kept", "(II)I"⟩
abbrev cX11_best : ByteArray := prog_1_method_13_code
def yX11_best : MethodName := ⟨RX11, "best", "(I)I"⟩
abbrev cX11_appears : ByteArray := prog_1_method_14_code
def yX11_appears : MethodName := ⟨RX11, "appears", "(I)I"⟩
abbrev cX11_later : ByteArray := prog_1_method_15_code
def yX11_later : MethodName := ⟨RX11, "later", "(II)I"⟩
abbrev cX11_curtain : ByteArray := prog_1_method_16_code
def yX11_curtain : MethodName := ⟨RX11, "curtain", "()I"⟩
abbrev cX11_both : ByteArray := prog_1_method_17_code
def yX11_both : MethodName := ⟨RX11, "both", "(I)I"⟩
abbrev cX11_drop : ByteArray := prog_1_method_18_code
def yX11_drop : MethodName := ⟨RX11, "drop", "(I)I"⟩
abbrev cX11_count : ByteArray := prog_1_method_19_code
def yX11_count : MethodName := ⟨RX11, "count", "()I"⟩
abbrev cX11_shows : ByteArray := prog_1_method_20_code
def yX11_shows : MethodName := ⟨RX11, "shows", "(I)I"⟩
abbrev cX11_where : ByteArray := prog_1_method_21_code
def yX11_where : MethodName := ⟨RX11, "where", "(I)I"⟩
abbrev cX11_watch : ByteArray := prog_1_method_22_code
def yX11_watch : MethodName := ⟨RX11, "watch", "(I)I"⟩
abbrev cX11_seat : ByteArray := prog_1_method_23_code
def yX11_seat : MethodName := ⟨RX11, "seat", "(I)I"⟩
abbrev cX11_show : ByteArray := prog_1_method_24_code
def yX11_show : MethodName := ⟨RX11, "show", "(I)I"⟩
abbrev cX11_sit : ByteArray := prog_1_method_25_code
def yX11_sit : MethodName := ⟨RX11, "sit", "(II)Z"⟩
abbrev cX11_move : ByteArray := prog_1_method_26_code
def yX11_move : MethodName := ⟨RX11, "move", "(III)Z"⟩
abbrev cX11_years : ByteArray := prog_1_method_27_code
def yX11_years : MethodName := ⟨RX11, "years", "(I)I"⟩
abbrev cX11_chance : ByteArray := prog_1_method_28_code
def yX11_chance : MethodName := ⟨RX11, "chance", "(I)I"⟩
abbrev cX11_undo : ByteArray := prog_1_method_29_code
def yX11_undo : MethodName := ⟨RX11, "undo", "()Z"⟩
abbrev cX11_seed : ByteArray := prog_1_method_30_code
def yX11_seed : MethodName := ⟨RX11, "seed", "(I)Z"⟩
abbrev cX11_ask : ByteArray := prog_1_method_31_code
def yX11_ask : MethodName := ⟨RX11, "ask", "()J"⟩
abbrev cX11_image : ByteArray := prog_1_method_32_code
def yX11_image : MethodName := ⟨RX11, "image", "()I"⟩
abbrev cX11_octet : ByteArray := prog_1_method_33_code
def yX11_octet : MethodName := ⟨RX11, "octet", "(I)I"⟩
abbrev cX11_on : ByteArray := prog_1_method_34_code
def yX11_on : MethodName := ⟨RX11, "on", "()Z"⟩
abbrev cX11_status : ByteArray := prog_1_method_35_code
def yX11_status : MethodName := ⟨RX11, "status", "(I)I"⟩
abbrev cX11_refuse : ByteArray := prog_1_method_36_code
def yX11_refuse : MethodName := ⟨RX11, "refuse", "(I)I"⟩
abbrev cX11_refuses : ByteArray := prog_1_method_37_code
def yX11_refuses : MethodName := ⟨RX11, "refuses", "(I)Z"⟩
abbrev cX11_canGive : ByteArray := prog_1_method_38_code
def yX11_canGive : MethodName := ⟨RX11, "canGive", "(I)Z"⟩
abbrev cX11_canPass : ByteArray := prog_1_method_39_code
def yX11_canPass : MethodName := ⟨RX11, "canPass", "(I)Z"⟩
abbrev cX11_findCounted : ByteArray := prog_1_method_40_code
def yX11_findCounted : MethodName := ⟨RX11, "findCounted", "()V"⟩
abbrev cX11_remember : ByteArray := prog_1_method_41_code
def yX11_remember : MethodName := ⟨RX11, "remember", "()V"⟩
abbrev cX11_forgetPast : ByteArray := prog_1_method_42_code
def yX11_forgetPast : MethodName := ⟨RX11, "forgetPast", "()V"⟩
abbrev cX11_boyTells : ByteArray := prog_1_method_43_code
def yX11_boyTells : MethodName := ⟨RX11, "boyTells", "()Z"⟩
abbrev cX11_draw : ByteArray := prog_1_method_44_code
def yX11_draw : MethodName := ⟨RX11, "draw", "(I)I"⟩
def RX12 : String := "EmptyHatModel"
def TX12 : u_T := fun k => match k with
  | 0 => ("EmptyHatModel", "tape", "[I", true)
  | 1 => ("EmptyHatModel", "taped", "I", false)
  | 2 => ("EmptyHatModel", "at", "I", false)
  | 3 => ("EmptyHatModel", "end", "I", false)
  | 4 => ("EmptyHatModel", "ended", "I", false)
  | 5 => ("EmptyHatModel", "bad", "I", false)
  | 6 => ("EmptyHatModel", "badPlace", "I", false)
  | 7 => ("EmptyHatModel", "fault", "I", false)
  | 8 => ("EmptyHatModel", "faultPlace", "I", false)
  | 9 => ("EmptyHatModel", "refused", "[I", true)
  | 10 => ("EmptyHatModel", "needWord", "[C", true)
  | 11 => ("EmptyHatModel", "debtWord", "[C", true)
  | 12 => ("EmptyHatModel", "rateWord", "[C", true)
  | 13 => ("EmptyHatModel", "storesWord", "[C", true)
  | 14 => ("EmptyHatModel", "yieldsWord", "[C", true)
  | 15 => ("EmptyHatModel", "trickWord", "[C", true)
  | 16 => ("EmptyHatModel", "takesWord", "[C", true)
  | 17 => ("EmptyHatModel", "fromWord", "[C", true)
  | 18 => ("EmptyHatModel", "lookWord", "[C", true)
  | 19 => ("EmptyHatModel", "watchWord", "[C", true)
  | 20 => ("EmptyHatModel", "seatWord", "[C", true)
  | 21 => ("EmptyHatModel", "glassWord", "[C", true)
  | 22 => ("EmptyHatModel", "seesWord", "[C", true)
  | 23 => ("EmptyHatModel", "losesWord", "[C", true)
  | 24 => ("EmptyHatModel", "beliefWord", "[C", true)
  | 25 => ("EmptyHatModel", "boysWord", "[C", true)
  | 26 => ("EmptyHatModel", "timesWord", "[C", true)
  | 27 => ("EmptyHatModel", "yearWord", "[C", true)
  | 28 => ("EmptyHatModel", "numberWord", "[C", true)
  | 29 => ("EmptyHatModel", "knownWord", "[C", true)
  | 30 => ("EmptyHatModel", "sightWord", "[C", true)
  | 31 => ("EmptyHatModel", "leftWord", "[C", true)
  | 32 => ("EmptyHatModel", "seenWord", "[C", true)
  | 33 => ("EmptyHatModel", "orWord", "[C", true)
  | 34 => ("EmptyHatModel", "andWord", "[C", true)
  | 35 => ("EmptyHatModel", "notWord", "[C", true)
  | 36 => ("EmptyHatModel", "allWord", "[C", true)
  | 37 => ("EmptyHatModel", "minWord", "[C", true)
  | 38 => ("EmptyHatModel", "maxWord", "[C", true)
  | 39 => ("EmptyHatModel", "namePlace", "I", false)
  | 40 => ("EmptyHatModel", "many", "[I", true)
  | 41 => ("EmptyHatModel", "names", "[J", true)
  | 42 => ("EmptyHatModel", "chest", "[I", true)
  | 43 => ("EmptyHatModel", "provinces", "[I", true)
  | 44 => ("EmptyHatModel", "tricks", "[I", true)
  | 45 => ("EmptyHatModel", "watchers", "[I", true)
  | 46 => ("EmptyHatModel", "settings", "[I", true)
  | 47 => ("EmptyHatModel", "codeFrom", "[I", true)
  | 48 => ("EmptyHatModel", "codeEnd", "[I", true)
  | 49 => ("EmptyHatModel", "codes", "[I", true)
  | 50 => ("EmptyHatModel", "coded", "I", false)
  | 51 => ("EmptyHatModel", "statements", "I", false)
  | 52 => ("EmptyHatModel", "isCrown", "Z", false)
  | 53 => ("EmptyHatModel", "textKind", "I", false)
  | 54 => ("EmptyHatModel", "now", "[I", true)
  | 55 => ("EmptyHatModel", "aside", "[I", true)
  | 56 => ("EmptyHatModel", "askSeat", "I", false)
  | 57 => ("EmptyHatModel", "askGlass", "I", false)
  | 58 => ("EmptyHatModel", "askSight", "[I", true)
  | 59 => ("EmptyHatModel", "stores", "[I", true)
  | 60 => ("EmptyHatModel", "sights", "[I", true)
  | 61 => ("EmptyHatModel", "before", "[I", true)
  | 62 => ("EmptyHatModel", "isThought", "Z", false)
  | 63 => ("EmptyHatModel", "enoughMany", "I", false)
  | 64 => ("EmptyHatModel", "appeared", "I", false)
  | 65 => ("EmptyHatModel", "between", "[I", true)
  | 66 => ("EmptyHatModel", "rowMany", "I", false)
  | 67 => ("EmptyHatModel", "rows", "[I", true)
  | 68 => ("EmptyHatModel", "behind", "[I", true)
  | 69 => ("EmptyHatModel", "isShow", "[Z", true)
  | 70 => ("EmptyHatModel", "showMany", "I", false)
  | 71 => ("EmptyHatModel", "kept0", "[I", true)
  | 72 => ("EmptyHatModel", "undoable", "I", false)
  | 73 => ("EmptyHatModel", "newest", "I", false)
  | 74 => ("EmptyHatModel", "seeded", "J", false)
  | 75 => ("EmptyHatModel", "firstAsked", "[C", true)
  | 76 => ("EmptyHatModel", "lastAsked", "[C", true)
  | 77 => ("EmptyHatModel", "oftenAsked", "[C", true)
  | 78 => ("EmptyHatModel", "totalAsked", "[C", true)
  | 79 => ("EmptyHatModel", "mostAsked", "[C", true)
  | 80 => ("EmptyHatModel", "leastAsked", "[C", true)
  | 81 => ("EmptyHatModel", "notAsked", "[C", true)
  | 82 => ("EmptyHatModel", "andAsked", "[C", true)
  | 83 => ("EmptyHatModel", "orAsked", "[C", true)
  | 84 => ("EmptyHatModel", "allAsked", "[C", true)
  | 85 => ("EmptyHatModel", "minAsked", "[C", true)
  | 86 => ("EmptyHatModel", "maxAsked", "[C", true)
  | 87 => ("EmptyHatModel", "lookAsked", "[C", true)
  | 88 => ("EmptyHatModel", "timesAsked", "[C", true)
  | 89 => ("EmptyHatModel", "yearAsked", "[C", true)
  | 90 => ("EmptyHatModel", "seatAsked", "[C", true)
  | 91 => ("EmptyHatModel", "glassAsked", "[C", true)
  | 92 => ("EmptyHatModel", "takesAsked", "[C", true)
  | 93 => ("EmptyHatModel", "beliefAsked", "[C", true)
  | 94 => ("EmptyHatModel", "numberAsked", "[C", true)
  | 95 => ("EmptyHatModel", "knownAsked", "[C", true)
  | 96 => ("EmptyHatModel", "sightAsked", "[C", true)
  | 97 => ("EmptyHatModel", "leftAsked", "[C", true)
  | 98 => ("EmptyHatModel", "seenAsked", "[C", true)
  | 99 => ("EmptyHatModel", "qCodes", "[I", true)
  | 100 => ("EmptyHatModel", "qCoded", "I", false)
  | 101 => ("EmptyHatModel", "qWait", "[I", true)
  | 102 => ("EmptyHatModel", "qWaits", "I", false)
  | 103 => ("EmptyHatModel", "qOpened", "I", false)
  | 104 => ("EmptyHatModel", "qBase", "I", false)
  | 105 => ("EmptyHatModel", "qPile", "[J", true)
  | 106 => ("EmptyHatModel", "qPiled", "I", false)
  | 107 => ("EmptyHatModel", "qAnswer", "J", false)
  | 108 => ("EmptyHatModel", "qIsNew", "Z", false)
  | 109 => ("EmptyHatModel", "octet", "[I", true)
  | _ => ("EmptyHatModel", "octets", "I", false)
def tyX12 : Nat → FieldType := fun k => match k with
  | 0 => .array .int
  | 1 => .int
  | 2 => .int
  | 3 => .int
  | 4 => .int
  | 5 => .int
  | 6 => .int
  | 7 => .int
  | 8 => .int
  | 9 => .array .int
  | 10 => .array .char
  | 11 => .array .char
  | 12 => .array .char
  | 13 => .array .char
  | 14 => .array .char
  | 15 => .array .char
  | 16 => .array .char
  | 17 => .array .char
  | 18 => .array .char
  | 19 => .array .char
  | 20 => .array .char
  | 21 => .array .char
  | 22 => .array .char
  | 23 => .array .char
  | 24 => .array .char
  | 25 => .array .char
  | 26 => .array .char
  | 27 => .array .char
  | 28 => .array .char
  | 29 => .array .char
  | 30 => .array .char
  | 31 => .array .char
  | 32 => .array .char
  | 33 => .array .char
  | 34 => .array .char
  | 35 => .array .char
  | 36 => .array .char
  | 37 => .array .char
  | 38 => .array .char
  | 39 => .int
  | 40 => .array .int
  | 41 => .array .long
  | 42 => .array .int
  | 43 => .array .int
  | 44 => .array .int
  | 45 => .array .int
  | 46 => .array .int
  | 47 => .array .int
  | 48 => .array .int
  | 49 => .array .int
  | 50 => .int
  | 51 => .int
  | 52 => .boolean
  | 53 => .int
  | 54 => .array .int
  | 55 => .array .int
  | 56 => .int
  | 57 => .int
  | 58 => .array .int
  | 59 => .array .int
  | 60 => .array .int
  | 61 => .array .int
  | 62 => .boolean
  | 63 => .int
  | 64 => .int
  | 65 => .array .int
  | 66 => .int
  | 67 => .array .int
  | 68 => .array .int
  | 69 => .array .boolean
  | 70 => .int
  | 71 => .array .int
  | 72 => .int
  | 73 => .int
  | 74 => .long
  | 75 => .array .char
  | 76 => .array .char
  | 77 => .array .char
  | 78 => .array .char
  | 79 => .array .char
  | 80 => .array .char
  | 81 => .array .char
  | 82 => .array .char
  | 83 => .array .char
  | 84 => .array .char
  | 85 => .array .char
  | 86 => .array .char
  | 87 => .array .char
  | 88 => .array .char
  | 89 => .array .char
  | 90 => .array .char
  | 91 => .array .char
  | 92 => .array .char
  | 93 => .array .char
  | 94 => .array .char
  | 95 => .array .char
  | 96 => .array .char
  | 97 => .array .char
  | 98 => .array .char
  | 99 => .array .int
  | 100 => .int
  | 101 => .array .int
  | 102 => .int
  | 103 => .int
  | 104 => .int
  | 105 => .array .long
  | 106 => .int
  | 107 => .long
  | 108 => .boolean
  | 109 => .array .int
  | _ => .int
abbrev wsX120 : List Cond := u_ws RX12 TX12 111
theorem nmX12 : ∀ a, a < 111 → ∀ b, b < 111 → a ≠ b → (TX12 a).2.1 ≠ (TX12 b).2.1 := by decide +kernel
theorem tyX12_ok : ∀ k, k < 111 → parseFieldDescriptor (TX12 k).2.2.1 = some (tyX12 k) := by decide +kernel
abbrev cX12_init : ByteArray := prog_14_method_1_code
def yX12_init : MethodName := ⟨RX12, "<init>", "()V"⟩
abbrev cX12_isIn : ByteArray := prog_14_method_2_code
def yX12_isIn : MethodName := ⟨RX12, "isIn", "(JJJ)Z"⟩
abbrev cX12_feed : ByteArray := prog_14_method_3_code
def yX12_feed : MethodName := ⟨RX12, "feed", "(IIIII)I"⟩
abbrev cX12_end : ByteArray := prog_14_method_4_code
def yX12_end : MethodName := ⟨RX12, "end", "(I)Z"⟩
abbrev cX12_fail : ByteArray := prog_14_method_5_code
def yX12_fail : MethodName := ⟨RX12, "fail", "(II)V"⟩
abbrev cX12_isLetter : ByteArray := prog_14_method_6_code
def yX12_isLetter : MethodName := ⟨RX12, "isLetter", "(I)Z"⟩
abbrev cX12_isDigit : ByteArray := prog_14_method_7_code
def yX12_isDigit : MethodName := ⟨RX12, "isDigit", "(I)Z"⟩
abbrev cX12_look0 : ByteArray := prog_14_method_8_code
def yX12_look0 : MethodName := ⟨RX12, "look0", "()I"⟩
abbrev cX12_isHere : ByteArray := prog_14_method_9_code
def yX12_isHere : MethodName := ⟨RX12, "isHere", "([C)Z"⟩
abbrev cX12_takes : ByteArray := prog_14_method_10_code
def yX12_takes : MethodName := ⟨RX12, "takes", "([C)Z"⟩
abbrev cX12_asks : ByteArray := prog_14_method_11_code
def yX12_asks : MethodName := ⟨RX12, "asks", "([C)V"⟩
abbrev cX12_takesSign : ByteArray := prog_14_method_12_code
def yX12_takesSign : MethodName := ⟨RX12, "takesSign", "(I)Z"⟩
abbrev cX12_asksSign : ByteArray := prog_14_method_13_code
def yX12_asksSign : MethodName := ⟨RX12, "asksSign", "(I)V"⟩
abbrev cX12_number : ByteArray := prog_14_method_14_code
def yX12_number : MethodName := ⟨RX12, "number", "(II)I"⟩
abbrev cX12_isOwnHere : ByteArray := prog_14_method_15_code
def yX12_isOwnHere : MethodName := ⟨RX12, "isOwnHere", "()Z"⟩
abbrev cX12_name : ByteArray := prog_14_method_16_code
def yX12_name : MethodName := ⟨RX12, "name", "()J"⟩
abbrev cX12_isAllowed : ByteArray := prog_14_method_17_code
def yX12_isAllowed : MethodName := ⟨RX12, "isAllowed", "(I)Z"⟩
abbrev cX12_isFull : ByteArray := prog_14_method_18_code
def yX12_isFull : MethodName := ⟨RX12, "isFull", "(III)Z"⟩
abbrev cX12_nameOf : ByteArray := prog_14_method_19_code
def yX12_nameOf : MethodName := ⟨RX12, "nameOf", "(IJ)I"⟩
abbrev cX12_newName : ByteArray := prog_14_method_20_code
def yX12_newName : MethodName := ⟨RX12, "newName", "()J"⟩
abbrev cX12_adds : ByteArray := prog_14_method_21_code
def yX12_adds : MethodName := ⟨RX12, "adds", "(IJ)I"⟩
abbrev cX12_chestTold : ByteArray := prog_14_method_22_code
def yX12_chestTold : MethodName := ⟨RX12, "chestTold", "()V"⟩
abbrev cX12_provinceTold : ByteArray := prog_14_method_23_code
def yX12_provinceTold : MethodName := ⟨RX12, "provinceTold", "(I)V"⟩
abbrev cX12_trickTold : ByteArray := prog_14_method_24_code
def yX12_trickTold : MethodName := ⟨RX12, "trickTold", "(I)V"⟩
abbrev cX12_watcherTold : ByteArray := prog_14_method_25_code
def yX12_watcherTold : MethodName := ⟨RX12, "watcherTold", "(I)V"⟩
abbrev cX12_codesTold : ByteArray := prog_14_method_26_code
def yX12_codesTold : MethodName := ⟨RX12, "codesTold", "(II)V"⟩
abbrev cX12_statementTold : ByteArray := prog_14_method_27_code
def yX12_statementTold : MethodName := ⟨RX12, "statementTold", "()V"⟩
abbrev cX12_crown : ByteArray := prog_14_method_28_code
def yX12_crown : MethodName := ⟨RX12, "crown", "()I"⟩
abbrev cX12_stands : ByteArray := prog_14_method_29_code
def yX12_stands : MethodName := ⟨RX12, "stands", "()V"⟩
abbrev cX12_fault : ByteArray := prog_14_method_30_code
def yX12_fault : MethodName := ⟨RX12, "fault", "(I)I"⟩
abbrev cX12_provinceMany : ByteArray := prog_14_method_31_code
def yX12_provinceMany : MethodName := ⟨RX12, "provinceMany", "()I"⟩
abbrev cX12_trickMany : ByteArray := prog_14_method_32_code
def yX12_trickMany : MethodName := ⟨RX12, "trickMany", "()I"⟩
abbrev cX12_watcherMany : ByteArray := prog_14_method_33_code
def yX12_watcherMany : MethodName := ⟨RX12, "watcherMany", "()I"⟩
abbrev cX12_isProvince : ByteArray := prog_14_method_34_code
def yX12_isProvince : MethodName := ⟨RX12, "isProvince", "(I)Z"⟩
abbrev cX12_isTrick : ByteArray := prog_14_method_35_code
def yX12_isTrick : MethodName := ⟨RX12, "isTrick", "(I)Z"⟩
abbrev cX12_isWatcher : ByteArray := prog_14_method_36_code
def yX12_isWatcher : MethodName := ⟨RX12, "isWatcher", "(I)Z"⟩
abbrev cX12_timesOf : ByteArray := prog_14_method_37_code
def yX12_timesOf : MethodName := ⟨RX12, "timesOf", "(I)I"⟩
abbrev cX12_knownOf : ByteArray := prog_14_method_38_code
def yX12_knownOf : MethodName := ⟨RX12, "knownOf", "(I)I"⟩
abbrev cX12_seatOf : ByteArray := prog_14_method_39_code
def yX12_seatOf : MethodName := ⟨RX12, "seatOf", "(I)I"⟩
abbrev cX12_codesTell : ByteArray := prog_14_method_40_code
def yX12_codesTell : MethodName := ⟨RX12, "codesTell", "(II)J"⟩
abbrev cX12_sightBy : ByteArray := prog_14_method_41_code
def yX12_sightBy : MethodName := ⟨RX12, "sightBy", "(III)I"⟩
abbrev cX12_sightOf : ByteArray := prog_14_method_42_code
def yX12_sightOf : MethodName := ⟨RX12, "sightOf", "(I)I"⟩
abbrev cX12_sightAll : ByteArray := prog_14_method_43_code
def yX12_sightAll : MethodName := ⟨RX12, "sightAll", "(II)I"⟩
abbrev cX12_throughSet : ByteArray := prog_14_method_44_code
def yX12_throughSet : MethodName := ⟨RX12, "throughSet", "()I"⟩
abbrev cX12_allTricks : ByteArray := prog_14_method_45_code
def yX12_allTricks : MethodName := ⟨RX12, "allTricks", "()I"⟩
abbrev cX12_canShow : ByteArray := prog_14_method_46_code
def yX12_canShow : MethodName := ⟨RX12, "canShow", "(I)Z"⟩
abbrev cX12_bits : ByteArray := prog_14_method_47_code
def yX12_bits : MethodName := ⟨RX12, "bits", "(I)I"⟩
abbrev cX12_yieldsCome : ByteArray := prog_14_method_48_code
def yX12_yieldsCome : MethodName := ⟨RX12, "yieldsCome", "()V"⟩
abbrev cX12_yieldsGoBack : ByteArray := prog_14_method_49_code
def yX12_yieldsGoBack : MethodName := ⟨RX12, "yieldsGoBack", "()V"⟩
abbrev cX12_yieldsComeNow : ByteArray := prog_14_method_50_code
def yX12_yieldsComeNow : MethodName := ⟨RX12, "yieldsComeNow", "()V"⟩
abbrev cX12_appearsBy : ByteArray := prog_14_method_51_code
def yX12_appearsBy : MethodName := ⟨RX12, "appearsBy", "(I)I"⟩
abbrev cX12_sightBySet : ByteArray := prog_14_method_52_code
def yX12_sightBySet : MethodName := ⟨RX12, "sightBySet", "(I)I"⟩
abbrev cX12_laysSights : ByteArray := prog_14_method_53_code
def yX12_laysSights : MethodName := ⟨RX12, "laysSights", "()V"⟩
abbrev cX12_isBetter : ByteArray := prog_14_method_54_code
def yX12_isBetter : MethodName := ⟨RX12, "isBetter", "(II)Z"⟩
abbrev cX12_bestShow : ByteArray := prog_14_method_55_code
def yX12_bestShow : MethodName := ⟨RX12, "bestShow", "()I"⟩
abbrev cX12_isKept : ByteArray := prog_14_method_56_code
def yX12_isKept : MethodName := ⟨RX12, "isKept", "(I)V"⟩
abbrev cX12_isSeenThrough : ByteArray := prog_14_method_57_code
def yX12_isSeenThrough : MethodName := ⟨RX12, "isSeenThrough", "(I)V"⟩
abbrev cX12_showGoes : ByteArray := prog_14_method_58_code
def yX12_showGoes : MethodName := ⟨RX12, "showGoes", "(I)V"⟩
abbrev cX12_debtGoes : ByteArray := prog_14_method_59_code
def yX12_debtGoes : MethodName := ⟨RX12, "debtGoes", "()V"⟩
abbrev cX12_yearEnds : ByteArray := prog_14_method_60_code
def yX12_yearEnds : MethodName := ⟨RX12, "yearEnds", "(I)V"⟩
abbrev cX12_yearGoes : ByteArray := prog_14_method_61_code
def yX12_yearGoes : MethodName := ⟨RX12, "yearGoes", "()V"⟩
abbrev cX12_yearsGo : ByteArray := prog_14_method_62_code
def yX12_yearsGo : MethodName := ⟨RX12, "yearsGo", "(I)V"⟩
abbrev cX12_putsAside : ByteArray := prog_14_method_63_code
def yX12_putsAside : MethodName := ⟨RX12, "putsAside", "()V"⟩
abbrev cX12_triesAnew : ByteArray := prog_14_method_64_code
def yX12_triesAnew : MethodName := ⟨RX12, "triesAnew", "()V"⟩
abbrev cX12_takesBack : ByteArray := prog_14_method_65_code
def yX12_takesBack : MethodName := ⟨RX12, "takesBack", "()V"⟩
abbrev cX12_isAhead : ByteArray := prog_14_method_66_code
def yX12_isAhead : MethodName := ⟨RX12, "isAhead", "(III)Z"⟩
abbrev cX12_storesAll : ByteArray := prog_14_method_67_code
def yX12_storesAll : MethodName := ⟨RX12, "storesAll", "()I"⟩
abbrev cX12_has : ByteArray := prog_14_method_68_code
def yX12_has : MethodName := ⟨RX12, "has", "(I)I"⟩
abbrev cX12_letter : ByteArray := prog_14_method_69_code
def yX12_letter : MethodName := ⟨RX12, "letter", "(III)I"⟩
abbrev cX12_province : ByteArray := prog_14_method_70_code
def yX12_province : MethodName := ⟨RX12, "province", "(II)I"⟩
abbrev cX12_trick : ByteArray := prog_14_method_71_code
def yX12_trick : MethodName := ⟨RX12, "trick", "(II)I"⟩
abbrev cX12_watcher : ByteArray := prog_14_method_72_code
def yX12_watcher : MethodName := ⟨RX12, "watcher", "(II)I"⟩
abbrev cX12_sight : ByteArray := prog_14_method_73_code
def yX12_sight : MethodName := ⟨RX12, "sight", "(II)I"⟩
abbrev cX12_kept : ByteArray := prog_14_method_74_code
def yX12_kept : MethodName := ⟨RX12, "kept", "(II)I"⟩
abbrev cX12_best : ByteArray := prog_14_method_75_code
def yX12_best : MethodName := ⟨RX12, "best", "(I)I"⟩
abbrev cX12_appears : ByteArray := prog_14_method_76_code
def yX12_appears : MethodName := ⟨RX12, "appears", "(I)I"⟩
abbrev cX12_later : ByteArray := prog_14_method_77_code
def yX12_later : MethodName := ⟨RX12, "later", "(II)I"⟩
abbrev cX12_curtain : ByteArray := prog_14_method_78_code
def yX12_curtain : MethodName := ⟨RX12, "curtain", "()I"⟩
abbrev cX12_both : ByteArray := prog_14_method_79_code
def yX12_both : MethodName := ⟨RX12, "both", "(I)I"⟩
abbrev cX12_drop : ByteArray := prog_14_method_80_code
def yX12_drop : MethodName := ⟨RX12, "drop", "(I)I"⟩
abbrev cX12_refuses : ByteArray := prog_14_method_81_code
def yX12_refuses : MethodName := ⟨RX12, "refuses", "(I)I"⟩
abbrev cX12_count : ByteArray := prog_14_method_82_code
def yX12_count : MethodName := ⟨RX12, "count", "()I"⟩
abbrev cX12_isAsCounted : ByteArray := prog_14_method_83_code
def yX12_isAsCounted : MethodName := ⟨RX12, "isAsCounted", "()Z"⟩
abbrev cX12_laysShows : ByteArray := prog_14_method_84_code
def yX12_laysShows : MethodName := ⟨RX12, "laysShows", "()V"⟩
abbrev cX12_shows : ByteArray := prog_14_method_85_code
def yX12_shows : MethodName := ⟨RX12, "shows", "(I)I"⟩
abbrev cX12_alike : ByteArray := prog_14_method_86_code
def yX12_alike : MethodName := ⟨RX12, "alike", "(II)I"⟩
abbrev cX12_where : ByteArray := prog_14_method_87_code
def yX12_where : MethodName := ⟨RX12, "where", "(I)I"⟩
abbrev cX12_doWatch : ByteArray := prog_14_method_88_code
def yX12_doWatch : MethodName := ⟨RX12, "doWatch", "(II)Z"⟩
abbrev cX12_watch : ByteArray := prog_14_method_89_code
def yX12_watch : MethodName := ⟨RX12, "watch", "(I)I"⟩
abbrev cX12_seat : ByteArray := prog_14_method_90_code
def yX12_seat : MethodName := ⟨RX12, "seat", "(I)I"⟩
abbrev cX12_keeps : ByteArray := prog_14_method_91_code
def yX12_keeps : MethodName := ⟨RX12, "keeps", "()V"⟩
abbrev cX12_undo : ByteArray := prog_14_method_92_code
def yX12_undo : MethodName := ⟨RX12, "undo", "()Z"⟩
abbrev cX12_isRefused : ByteArray := prog_14_method_93_code
def yX12_isRefused : MethodName := ⟨RX12, "isRefused", "()Z"⟩
abbrev cX12_show : ByteArray := prog_14_method_94_code
def yX12_show : MethodName := ⟨RX12, "show", "(I)I"⟩
abbrev cX12_sit : ByteArray := prog_14_method_95_code
def yX12_sit : MethodName := ⟨RX12, "sit", "(II)Z"⟩
abbrev cX12_move : ByteArray := prog_14_method_96_code
def yX12_move : MethodName := ⟨RX12, "move", "(III)Z"⟩
abbrev cX12_years : ByteArray := prog_14_method_97_code
def yX12_years : MethodName := ⟨RX12, "years", "(I)I"⟩
abbrev cX12_seed : ByteArray := prog_14_method_98_code
def yX12_seed : MethodName := ⟨RX12, "seed", "(I)Z"⟩
abbrev cX12_drawOf : ByteArray := prog_14_method_99_code
def yX12_drawOf : MethodName := ⟨RX12, "drawOf", "(I)I"⟩
abbrev cX12_chance : ByteArray := prog_14_method_100_code
def yX12_chance : MethodName := ⟨RX12, "chance", "(I)I"⟩
abbrev cX12_qCode : ByteArray := prog_14_method_101_code
def yX12_qCode : MethodName := ⟨RX12, "qCode", "(I)V"⟩
abbrev cX12_qOpens : ByteArray := prog_14_method_102_code
def yX12_qOpens : MethodName := ⟨RX12, "qOpens", "(II)V"⟩
abbrev cX12_qIsOn : ByteArray := prog_14_method_103_code
def yX12_qIsOn : MethodName := ⟨RX12, "qIsOn", "(I)Z"⟩
abbrev cX12_qDrops : ByteArray := prog_14_method_104_code
def yX12_qDrops : MethodName := ⟨RX12, "qDrops", "()V"⟩
abbrev cX12_qIsBracket : ByteArray := prog_14_method_105_code
def yX12_qIsBracket : MethodName := ⟨RX12, "qIsBracket", "(I)Z"⟩
abbrev cX12_qBracket : ByteArray := prog_14_method_106_code
def yX12_qBracket : MethodName := ⟨RX12, "qBracket", "()I"⟩
abbrev cX12_qDropsToBracket : ByteArray := prog_14_method_107_code
def yX12_qDropsToBracket : MethodName := ⟨RX12, "qDropsToBracket", "()V"⟩
abbrev cX12_qWordHere : ByteArray := prog_14_method_108_code
def yX12_qWordHere : MethodName := ⟨RX12, "qWordHere", "()I"⟩
abbrev cX12_qWordOf : ByteArray := prog_14_method_109_code
def yX12_qWordOf : MethodName := ⟨RX12, "qWordOf", "(II)I"⟩
abbrev cX12_qAsksWord : ByteArray := prog_14_method_110_code
def yX12_qAsksWord : MethodName := ⟨RX12, "qAsksWord", "(I)V"⟩
abbrev cX12_qEndsPart : ByteArray := prog_14_method_111_code
def yX12_qEndsPart : MethodName := ⟨RX12, "qEndsPart", "()V"⟩
abbrev cX12_qPartTold : ByteArray := prog_14_method_112_code
def yX12_qPartTold : MethodName := ⟨RX12, "qPartTold", "()V"⟩
abbrev cX12_qGoesOn : ByteArray := prog_14_method_113_code
def yX12_qGoesOn : MethodName := ⟨RX12, "qGoesOn", "()Z"⟩
abbrev cX12_qSums : ByteArray := prog_14_method_114_code
def yX12_qSums : MethodName := ⟨RX12, "qSums", "()V"⟩
abbrev cX12_qFact : ByteArray := prog_14_method_115_code
def yX12_qFact : MethodName := ⟨RX12, "qFact", "()V"⟩
abbrev cX12_qHasSquare : ByteArray := prog_14_method_116_code
def yX12_qHasSquare : MethodName := ⟨RX12, "qHasSquare", "()Z"⟩
abbrev cX12_qDropsNots : ByteArray := prog_14_method_117_code
def yX12_qDropsNots : MethodName := ⟨RX12, "qDropsNots", "()V"⟩
abbrev cX12_qTest : ByteArray := prog_14_method_118_code
def yX12_qTest : MethodName := ⟨RX12, "qTest", "()V"⟩
abbrev cX12_qGoesOnTest : ByteArray := prog_14_method_119_code
def yX12_qGoesOnTest : MethodName := ⟨RX12, "qGoesOnTest", "()Z"⟩
abbrev cX12_qClip : ByteArray := prog_14_method_120_code
def yX12_qClip : MethodName := ⟨RX12, "qClip", "(J)J"⟩
abbrev cX12_qFloor : ByteArray := prog_14_method_121_code
def yX12_qFloor : MethodName := ⟨RX12, "qFloor", "(JJ)J"⟩
abbrev cX12_qPuts : ByteArray := prog_14_method_122_code
def yX12_qPuts : MethodName := ⟨RX12, "qPuts", "(J)V"⟩
abbrev cX12_qJoins : ByteArray := prog_14_method_123_code
def yX12_qJoins : MethodName := ⟨RX12, "qJoins", "(I)V"⟩
abbrev cX12_qPartOf : ByteArray := prog_14_method_124_code
def yX12_qPartOf : MethodName := ⟨RX12, "qPartOf", "(II)J"⟩
abbrev cX12_qOf : ByteArray := prog_14_method_125_code
def yX12_qOf : MethodName := ⟨RX12, "qOf", "(IJI)J"⟩
abbrev cX12_qTold : ByteArray := prog_14_method_126_code
def yX12_qTold : MethodName := ⟨RX12, "qTold", "(I)J"⟩
abbrev cX12_qKind : ByteArray := prog_14_method_127_code
def yX12_qKind : MethodName := ⟨RX12, "qKind", "()I"⟩
abbrev cX12_qTakes : ByteArray := prog_14_method_128_code
def yX12_qTakes : MethodName := ⟨RX12, "qTakes", "(IJI)V"⟩
abbrev cX12_ask : ByteArray := prog_14_method_129_code
def yX12_ask : MethodName := ⟨RX12, "ask", "()J"⟩
abbrev cX12_checked : ByteArray := prog_14_method_130_code
def yX12_checked : MethodName := ⟨RX12, "checked", "([II)I"⟩
abbrev cX12_writes : ByteArray := prog_14_method_131_code
def yX12_writes : MethodName := ⟨RX12, "writes", "(I)V"⟩
abbrev cX12_writesTwo : ByteArray := prog_14_method_132_code
def yX12_writesTwo : MethodName := ⟨RX12, "writesTwo", "(I)V"⟩
abbrev cX12_image : ByteArray := prog_14_method_133_code
def yX12_image : MethodName := ⟨RX12, "image", "()I"⟩
abbrev cX12_octet : ByteArray := prog_14_method_134_code
def yX12_octet : MethodName := ⟨RX12, "octet", "(I)I"⟩
abbrev cX12_twoAt : ByteArray := prog_14_method_135_code
def yX12_twoAt : MethodName := ⟨RX12, "twoAt", "(I)I"⟩
abbrev cX12_isImage : ByteArray := prog_14_method_136_code
def yX12_isImage : MethodName := ⟨RX12, "isImage", "(I)Z"⟩
abbrev cX12_on : ByteArray := prog_14_method_137_code
def yX12_on : MethodName := ⟨RX12, "on", "()Z"⟩
abbrev cX12_status : ByteArray := prog_14_method_138_code
def yX12_status : MethodName := ⟨RX12, "status", "(I)I"⟩
def RJx145de : String := "java/io/Serializable"
def TJx145de : u_T := fun k => match k with
  | _ => ("", "", "", false)
def tyJx145de : Nat → FieldType := fun k => match k with
  | _ => .int
abbrev wsJx145de0 : List Cond := u_ws RJx145de TJx145de 0
theorem nmJx145de : ∀ a, a < 0 → ∀ b, b < 0 → a ≠ b → (TJx145de a).2.1 ≠ (TJx145de b).2.1 := by decide +kernel
theorem tyJx145de_ok : ∀ k, k < 0 → parseFieldDescriptor (TJx145de k).2.2.1 = some (tyJx145de k) := by decide +kernel
def RJx9f9b0 : String := "java/lang/CharSequence"
def TJx9f9b0 : u_T := fun k => match k with
  | _ => ("", "", "", false)
def tyJx9f9b0 : Nat → FieldType := fun k => match k with
  | _ => .int
abbrev wsJx9f9b00 : List Cond := u_ws RJx9f9b0 TJx9f9b0 0
theorem nmJx9f9b0 : ∀ a, a < 0 → ∀ b, b < 0 → a ≠ b → (TJx9f9b0 a).2.1 ≠ (TJx9f9b0 b).2.1 := by decide +kernel
theorem tyJx9f9b0_ok : ∀ k, k < 0 → parseFieldDescriptor (TJx9f9b0 k).2.2.1 = some (tyJx9f9b0 k) := by decide +kernel
def RJxb160c : String := "java/lang/Comparable"
def TJxb160c : u_T := fun k => match k with
  | _ => ("", "", "", false)
def tyJxb160c : Nat → FieldType := fun k => match k with
  | _ => .int
abbrev wsJxb160c0 : List Cond := u_ws RJxb160c TJxb160c 0
theorem nmJxb160c : ∀ a, a < 0 → ∀ b, b < 0 → a ≠ b → (TJxb160c a).2.1 ≠ (TJxb160c b).2.1 := by decide +kernel
theorem tyJxb160c_ok : ∀ k, k < 0 → parseFieldDescriptor (TJxb160c k).2.2.1 = some (tyJxb160c k) := by decide +kernel
def RJ6 : String := "java/lang/Integer"
def TJ6 : u_T := fun k => match k with
  | _ => ("", "", "", false)
def tyJ6 : Nat → FieldType := fun k => match k with
  | _ => .int
abbrev wsJ60 : List Cond := u_ws RJ6 TJ6 0
theorem nmJ6 : ∀ a, a < 0 → ∀ b, b < 0 → a ≠ b → (TJ6 a).2.1 ≠ (TJ6 b).2.1 := by decide +kernel
theorem tyJ6_ok : ∀ k, k < 0 → parseFieldDescriptor (TJ6 k).2.2.1 = some (tyJ6 k) := by decide +kernel
abbrev cJ6_bitCount_0f7a4 : ByteArray := prog_15_method_49_code
def yJ6_bitCount_0f7a4 : MethodName := ⟨RJ6, "bitCount", "(I)I"⟩
def RJ9 : String := "java/lang/Math"
def TJ9 : u_T := fun k => match k with
  | _ => ("", "", "", false)
def tyJ9 : Nat → FieldType := fun k => match k with
  | _ => .int
abbrev wsJ90 : List Cond := u_ws RJ9 TJ9 0
theorem nmJ9 : ∀ a, a < 0 → ∀ b, b < 0 → a ≠ b → (TJ9 a).2.1 ≠ (TJ9 b).2.1 := by decide +kernel
theorem tyJ9_ok : ∀ k, k < 0 → parseFieldDescriptor (TJ9 k).2.2.1 = some (tyJ9 k) := by decide +kernel
abbrev cJ9_floorDiv_f86c9 : ByteArray := prog_16_method_49_code
def yJ9_floorDiv_f86c9 : MethodName := ⟨RJ9, "floorDiv", "(JJ)J"⟩
abbrev cJ9_max_7cf53 : ByteArray := prog_16_method_65_code
def yJ9_max_7cf53 : MethodName := ⟨RJ9, "max", "(II)I"⟩
abbrev cJ9_max_f86c9 : ByteArray := prog_16_method_66_code
def yJ9_max_f86c9 : MethodName := ⟨RJ9, "max", "(JJ)J"⟩
abbrev cJ9_min_7cf53 : ByteArray := prog_16_method_69_code
def yJ9_min_7cf53 : MethodName := ⟨RJ9, "min", "(II)I"⟩
abbrev cJ9_min_f86c9 : ByteArray := prog_16_method_70_code
def yJ9_min_f86c9 : MethodName := ⟨RJ9, "min", "(JJ)J"⟩
def RJ0 : String := "java/lang/String"
def TJ0 : u_T := fun k => match k with
  | _ => ("", "", "", false)
def tyJ0 : Nat → FieldType := fun k => match k with
  | _ => .int
abbrev wsJ00 : List Cond := u_ws RJ0 TJ0 0
theorem nmJ0 : ∀ a, a < 0 → ∀ b, b < 0 → a ≠ b → (TJ0 a).2.1 ≠ (TJ0 b).2.1 := by decide +kernel
theorem tyJ0_ok : ∀ k, k < 0 → parseFieldDescriptor (TJ0 k).2.2.1 = some (tyJ0 k) := by decide +kernel
abbrev cJ0_charAt_5068e : ByteArray := prog_17_method_56_code
def yJ0_charAt_5068e : MethodName := ⟨RJ0, "charAt", "(I)C"⟩
abbrev cJ0_isLatin1_aae02 : ByteArray := prog_17_method_154_code
def yJ0_isLatin1_aae02 : MethodName := ⟨RJ0, "isLatin1", "()Z"⟩
abbrev cJ0_checkIndex_df160 : ByteArray := prog_17_method_155_code
def yJ0_checkIndex_df160 : MethodName := ⟨RJ0, "checkIndex", "(II)V"⟩
def RJ1 : String := "java/lang/StringLatin1"
def TJ1 : u_T := fun k => match k with
  | _ => ("", "", "", false)
def tyJ1 : Nat → FieldType := fun k => match k with
  | _ => .int
abbrev wsJ10 : List Cond := u_ws RJ1 TJ1 0
theorem nmJ1 : ∀ a, a < 0 → ∀ b, b < 0 → a ≠ b → (TJ1 a).2.1 ≠ (TJ1 b).2.1 := by decide +kernel
theorem tyJ1_ok : ∀ k, k < 0 → parseFieldDescriptor (TJ1 k).2.2.1 = some (tyJ1 k) := by decide +kernel
abbrev cJ1_charAt_3b067 : ByteArray := prog_18_method_2_code
def yJ1_charAt_3b067 : MethodName := ⟨RJ1, "charAt", "([BI)C"⟩
def RJ2 : String := "java/lang/StringUTF16"
def TJ2 : u_T := fun k => match k with
  | _ => ("", "", "", false)
def tyJ2 : Nat → FieldType := fun k => match k with
  | _ => .int
abbrev wsJ20 : List Cond := u_ws RJ2 TJ2 0
theorem nmJ2 : ∀ a, a < 0 → ∀ b, b < 0 → a ≠ b → (TJ2 a).2.1 ≠ (TJ2 b).2.1 := by decide +kernel
theorem tyJ2_ok : ∀ k, k < 0 → parseFieldDescriptor (TJ2 k).2.2.1 = some (tyJ2 k) := by decide +kernel
abbrev cJ2_getChar_3b067 : ByteArray := prog_19_method_5_code
def yJ2_getChar_3b067 : MethodName := ⟨RJ2, "getChar", "([BI)C"⟩
abbrev cJ2_length_9d52b : ByteArray := prog_19_method_6_code
def yJ2_length_9d52b : MethodName := ⟨RJ2, "length", "([B)I"⟩
abbrev cJ2_charAt_3b067 : ByteArray := prog_19_method_83_code
def yJ2_charAt_3b067 : MethodName := ⟨RJ2, "charAt", "([BI)C"⟩
abbrev cJ2_checkIndex_2214a : ByteArray := prog_19_method_91_code
def yJ2_checkIndex_2214a : MethodName := ⟨RJ2, "checkIndex", "(I[B)V"⟩
def RJ10 : String := "java/lang/System"
def TJ10 : u_T := fun k => match k with
  | _ => ("", "", "", false)
def tyJ10 : Nat → FieldType := fun k => match k with
  | _ => .int
abbrev wsJ100 : List Cond := u_ws RJ10 TJ10 0
theorem nmJ10 : ∀ a, a < 0 → ∀ b, b < 0 → a ≠ b → (TJ10 a).2.1 ≠ (TJ10 b).2.1 := by decide +kernel
theorem tyJ10_ok : ∀ k, k < 0 → parseFieldDescriptor (TJ10 k).2.2.1 = some (tyJ10 k) := by decide +kernel
def RJxfd54e : String := "java/lang/constant/Constable"
def TJxfd54e : u_T := fun k => match k with
  | _ => ("", "", "", false)
def tyJxfd54e : Nat → FieldType := fun k => match k with
  | _ => .int
abbrev wsJxfd54e0 : List Cond := u_ws RJxfd54e TJxfd54e 0
theorem nmJxfd54e : ∀ a, a < 0 → ∀ b, b < 0 → a ≠ b → (TJxfd54e a).2.1 ≠ (TJxfd54e b).2.1 := by decide +kernel
theorem tyJxfd54e_ok : ∀ k, k < 0 → parseFieldDescriptor (TJxfd54e k).2.2.1 = some (tyJxfd54e k) := by decide +kernel
def RJx3cf43 : String := "java/lang/constant/ConstantDesc"
def TJx3cf43 : u_T := fun k => match k with
  | _ => ("", "", "", false)
def tyJx3cf43 : Nat → FieldType := fun k => match k with
  | _ => .int
abbrev wsJx3cf430 : List Cond := u_ws RJx3cf43 TJx3cf43 0
theorem nmJx3cf43 : ∀ a, a < 0 → ∀ b, b < 0 → a ≠ b → (TJx3cf43 a).2.1 ≠ (TJx3cf43 b).2.1 := by decide +kernel
theorem tyJx3cf43_ok : ∀ k, k < 0 → parseFieldDescriptor (TJx3cf43 k).2.2.1 = some (tyJx3cf43 k) := by decide +kernel
def RJ7 : String := "java/util/Arrays"
def TJ7 : u_T := fun k => match k with
  | _ => ("", "", "", false)
def tyJ7 : Nat → FieldType := fun k => match k with
  | _ => .int
abbrev wsJ70 : List Cond := u_ws RJ7 TJ7 0
theorem nmJ7 : ∀ a, a < 0 → ∀ b, b < 0 → a ≠ b → (TJ7 a).2.1 ≠ (TJ7 b).2.1 := by decide +kernel
theorem tyJ7_ok : ∀ k, k < 0 → parseFieldDescriptor (TJ7 k).2.2.1 = some (tyJ7 k) := by decide +kernel
abbrev cJ7_fill_53178 : ByteArray := prog_21_method_103_code
def yJ7_fill_53178 : MethodName := ⟨RJ7, "fill", "([II)V"⟩
def RJ3 : String := "jdk/internal/util/Preconditions"
def TJ3 : u_T := fun k => match k with
  | _ => ("", "", "", false)
def tyJ3 : Nat → FieldType := fun k => match k with
  | _ => .int
abbrev wsJ30 : List Cond := u_ws RJ3 TJ3 0
theorem nmJ3 : ∀ a, a < 0 → ∀ b, b < 0 → a ≠ b → (TJ3 a).2.1 ≠ (TJ3 b).2.1 := by decide +kernel
theorem tyJ3_ok : ∀ k, k < 0 → parseFieldDescriptor (TJ3 k).2.2.1 = some (tyJ3 k) := by decide +kernel
abbrev cJ3_checkIndex_8e157 : ByteArray := prog_22_method_11_code
def yJ3_checkIndex_8e157 : MethodName := ⟨RJ3, "checkIndex", "(IILjava/util/function/BiFunction;)I"⟩
def RL : String := "EmptyHatLaw"
abbrev cL_law : ByteArray := code
def yL_law : MethodName := ⟨RL, "law", "([I)Z"⟩
abbrev vwCl : List vw_C := [(RX0, TX0, 16), (RX1, TX1, 9), (RX2, TX2, 16), (RX3, TX3, 5), (RX4, TX4, 3), (RX5, TX5, 3), (RX6, TX6, 5), (RX7, TX7, 3), (RX8, TX8, 8), (RX9, TX9, 9), (RX10, TX10, 11), (RX11, TX11, 17), (RX12, TX12, 111)]
end
section
/-! the heap as plain functions: numbers, longs, pointers, by a cell's number and a place in it -/
/-- the tables' words that stay over a call -/
def gw : List Cond := lw_tbl.filter goodWord
abbrev Hp : Type := (Nat → Nat → Int32) × (Nat → Nat → Int64) × (Nat → Nat → Nat)
abbrev Ev : Type := va_G × (Nat → Nat) × (Nat → ClassId)
/-- a system: its cells' numbers; shape of each (1 an object of a class, 2 .. 8 arrays, their lengths); kinds of a class's fields; pointers that stay; pointer arrays; how many fields -/
abbrev Sy : Type := List Nat × (Nat → Nat × Nat) × (Nat → Nat → Nat) × (Nat → Nat → Nat) × (Nat → Nat → Nat) × (Nat → Nat)
def ho_sI (S : Hp) (a k : Nat) (v : Int32) : Hp := (fun b => if b = a then upd (S.1 a) k v else S.1 b, S.2)
def ho_sJ (S : Hp) (a k : Nat) (v : Int64) : Hp := (S.1, fun b => if b = a then vp_updL (S.2.1 a) k v else S.2.1 b, S.2.2)
def ho_sP (S : Hp) (a k v : Nat) : Hp := (S.1, S.2.1, fun b => if b = a then va_up (S.2.2 a) k v else S.2.2 b)
def ho_v (Y : Sy) (E : Ev) (S : Hp) (a c k : Nat) : Value :=
  if Y.2.2.1 c k = 0 then .int (S.1 a k) else if Y.2.2.1 c k = 1 then .long (S.2.1 a k) else if Y.2.2.1 c k = 2 then .ref (E.2.1 (Y.2.2.2.1 a k)) else .ref (E.2.1 (S.2.2 a k))
def ho_c (Y : Sy) (E : Ev) (S : Hp) (a : Nat) : va_E :=
  if (Y.2.1 a).1 = 1 then .inr ((Y.2.1 a).2, (List.range (Y.2.2.2.2.2 (Y.2.1 a).2)).map (ho_v Y E S a (Y.2.1 a).2))
  else if (Y.2.1 a).1 = 2 then .inl (E.2.2 0, (Y.2.1 a).2, .inl (S.1 a))
  else if (Y.2.1 a).1 = 3 then .inl (E.2.2 1, (Y.2.1 a).2, .inl (S.1 a))
  else if (Y.2.1 a).1 = 4 then .inl (E.2.2 2, (Y.2.1 a).2, .inl (S.1 a))
  else if (Y.2.1 a).1 = 5 then .inl (E.2.2 3, (Y.2.1 a).2, .inr (.inl (S.2.1 a)))
  else if (Y.2.1 a).1 = 6 then .inl (E.2.2 4, (Y.2.1 a).2, .inl (S.1 a))
  else if (Y.2.1 a).1 = 7 then .inl (E.2.2 5, (Y.2.1 a).2, .inr (.inr (.inr (.inr (fun i => some (E.2.1 (Y.2.2.2.2.1 a i)))))))
  else .inl (E.2.2 6, (Y.2.1 a).2, .inr (.inr (.inr (.inr (fun i => some (E.2.1 (Y.2.2.2.2.1 a i)))))))
def ho_w (Y : Sy) (E : Ev) (S : Hp) : va_W := Y.1.map (fun a => (E.2.1 a, ho_c Y E S a))
def ho_t (E : Ev) : List (ClassId × FieldType) := [(E.2.2 0, .byte), (E.2.2 1, .char), (E.2.2 2, .int), (E.2.2 3, .long), (E.2.2 4, .boolean), (E.2.2 5, .object "EmptyHat$State"), (E.2.2 6, .array .int)]
def ho_R (Y : Sy) (E : Ev) (A : Nat → Prop) (s : State) (H0 H : Heap) (locs : List Loc) (S : Hp) : Prop := va_K E.1 vwCl (ho_t E) s ∧ va_P E.1 vwCl (ho_w Y E S) H ∧ va_D A (ho_w Y E S) ∧ va_S A H0 H locs
/-- inside a method -/
abbrev ho_I (p : Program) (s : State) (m : MethodId) (args : Array Value) (meth : Method) (c : Code) (own : String) (cc : ByteArray) (nL : Nat) (ret : Option FieldType) : Prop :=
  p.tables.exec = Jvm.exec ∧ c.code = cc ∧ c.maxLocals = nL ∧ meth.sig.returnType = ret ∧ s.vm.findClass own = some m.cls ∧ (∀ w ∈ gw, w.before args s = true) ∧ meth.locks = false
/-- a class's tables -/
abbrev ho_F (ci : Nat) (Cn : String) (T : u_T) (ty : Nat → FieldType) (N : Nat) : Prop :=
  vwCl[ci]? = some (Cn, T, N) ∧ (∀ w ∈ u_ws Cn T N, w ∈ gw) ∧ (∀ k, k < N → parseFieldDescriptor (T k).2.2.1 = some (ty k)) ∧ (∀ a, a < N → ∀ b, b < N → a ≠ b → (T a).2.1 ≠ (T b).2.1)
theorem ho_at {Y : Sy} {a : Nat} (h : a ∈ Y.1) : ∃ q : Nat, Y.1[q]? = some a ∧ ∀ (E : Ev) (S : Hp), (ho_w Y E S)[q]? = some (E.2.1 a, ho_c Y E S a) := by
  obtain ⟨q, hq⟩ := List.getElem?_of_mem h
  exact ⟨q, hq, fun E S => by unfold ho_w; rw [List.getElem?_map, hq]; rfl⟩
theorem ho_set {Y : Sy} {E : Ev} {A : Nat → Prop} {S S' : Hp} {a q : Nat} (hD : va_D A (ho_w Y E S)) (hq : Y.1[q]? = some a) (hb : ∀ b, b ≠ a → ho_c Y E S' b = ho_c Y E S b) : (ho_w Y E S).set q (E.2.1 a, ho_c Y E S' a) = ho_w Y E S' := by
  apply List.ext_getElem?
  intro i
  have hw : ∀ (S : Hp) (i : Nat), (ho_w Y E S)[i]? = (Y.1[i]?).map (fun a => (E.2.1 a, ho_c Y E S a)) := fun S i => by unfold ho_w; rw [List.getElem?_map]
  rw [List.getElem?_set, hw S', hw S]
  by_cases hi : q = i
  · subst hi
    have hl : q < (ho_w Y E S).length := by unfold ho_w; rw [List.length_map]; exact (List.getElem?_eq_some_iff.mp hq).1
    rw [if_pos rfl, if_pos hl, hq]
    rfl
  · rw [if_neg hi]
    cases hb2 : Y.1[i]? with
    | none => rfl
    | some b =>
      have hne : b ≠ a := fun e => hi (hD.1 q i (E.2.1 a, ho_c Y E S a) (E.2.1 b, ho_c Y E S b) (by rw [hw, hq]; rfl) (by rw [hw, hb2]; rfl) (by rw [e]))
      show some (E.2.1 b, ho_c Y E S b) = some (E.2.1 b, ho_c Y E S' b)
      rw [hb b hne]
theorem ho_cI {Y : Sy} {E : Ev} {S : Hp} {a k : Nat} {v : Int32} : ∀ b, b ≠ a → ho_c Y E (ho_sI S a k v) b = ho_c Y E S b := by
  intro b hb
  have e : (ho_sI S a k v).1 b = S.1 b := if_neg hb
  have e2 : ho_v Y E (ho_sI S a k v) b = ho_v Y E S b := by
    funext c j
    unfold ho_v
    rw [e]
    rfl
  unfold ho_c
  rw [e, e2]
  rfl
theorem ho_cJ {Y : Sy} {E : Ev} {S : Hp} {a k : Nat} {v : Int64} : ∀ b, b ≠ a → ho_c Y E (ho_sJ S a k v) b = ho_c Y E S b := by
  intro b hb
  have e : (ho_sJ S a k v).2.1 b = S.2.1 b := if_neg hb
  have e2 : ho_v Y E (ho_sJ S a k v) b = ho_v Y E S b := by
    funext c j
    unfold ho_v
    rw [e]
    rfl
  unfold ho_c
  rw [e, e2]
  rfl
theorem ho_cP {Y : Sy} {E : Ev} {S : Hp} {a k : Nat} {v : Nat} : ∀ b, b ≠ a → ho_c Y E (ho_sP S a k v) b = ho_c Y E S b := by
  intro b hb
  have e : (ho_sP S a k v).2.2 b = S.2.2 b := if_neg hb
  have e2 : ho_v Y E (ho_sP S a k v) b = ho_v Y E S b := by
    funext c j
    unfold ho_v
    rw [e]
    rfl
  unfold ho_c
  rw [e2]
  rfl
/-- a field list with one place written -/
theorem ho_fs {n k : Nat} {f g : Nat → Value} {v : Value} (hk : g k = v) (hg : ∀ j, j ≠ k → g j = f j) : ((List.range n).map f).set k v = (List.range n).map g := by
  apply List.ext_getElem?
  intro i
  rw [List.getElem?_set, List.getElem?_map, List.getElem?_map]
  by_cases hi : k = i
  · subst hi
    rw [if_pos rfl]
    by_cases hl : k < n
    · rw [if_pos (by rw [List.length_map, List.length_range]; exact hl), List.getElem?_range hl]
      show some v = some (g k)
      rw [hk]
    · rw [if_neg (by rw [List.length_map, List.length_range]; exact hl), List.getElem?_eq_none (by rw [List.length_range]; omega)]
      rfl
  · rw [if_neg hi]
    by_cases hl : i < n
    · rw [List.getElem?_range hl]
      show some (f i) = some (g i)
      rw [hg i (fun e => hi e.symm)]
    · rw [List.getElem?_eq_none (by rw [List.length_range]; omega)]
      rfl
theorem gw_of {w : Cond} {i : Nat} (h : lw_tbl[i]? = some w) (hg : goodWord w = true) : w ∈ gw := List.mem_filter.mpr ⟨List.mem_of_getElem? h, hg⟩
section HO
variable {p : Program} {l : Launch} {e : Env} {R : Room} {s : State} {m : MethodId} {args : Array Value} {below : List Frame} {meth : Method} {c : Code} {H H0 : Heap} {locs : List Loc} {Q : State → Prop}
variable {Y : Sy} {E : Ev} {A : Nat → Prop} {S : Hp} {own : String} {cc : ByteArray} {nL : Nat} {ret : Option FieldType} {pc : Nat} {ls : Array Slot} {rest : List Value}
theorem ho_c1 {a ci : Nat} (hs : Y.2.1 a = (1, ci)) : ho_c Y E S a = .inr (ci, (List.range (Y.2.2.2.2.2 ci)).map (ho_v Y E S a ci)) := by
  unfold ho_c
  rw [hs]
  rfl
theorem ho_get {a ci k idx N : Nat} {Cn : String} {T : u_T} {ty : Nat → FieldType} {v : Value} (C : ho_I p s m args meth c own cc nL ret) (F : ho_F ci Cn T ty N) (hR : ho_R Y E A s H0 H locs S) (ha : a ∈ Y.1 ∧ Y.2.1 a = (1, ci)) (hn : Y.2.2.2.2.2 ci = N) (hk : k < N) (hw : Cond.fieldLink own idx (T k).1 (T k).2.1 (T k).2.2.1 ∈ gw) (hv : ho_v Y E S a ci k = v) (hdg : decode cc pc = .ok (.getfield idx, 3))
    (kk : W p l e R s m args below meth c H locs 0 0 Q (F0 m (pc + 3) ls (v :: rest))) : W p l e R s m args below meth c H locs 0 0 Q (F0 m pc ls (.ref (E.2.1 a) :: rest)) := by
  obtain ⟨hx, hb, -, -, hown, hts, -⟩ := C
  obtain ⟨q, -, hq⟩ := ho_at ha.1
  have he := hq E S
  rw [ho_c1 ha.2] at he
  refine va_get hx hb hts F.2.1 hown hR.1 hR.2.1 q he F.1 k hk (hts _ hw) (fun _ h9 => h9) ?_ hdg kk
  rw [List.getElem?_map, List.getElem?_range (by rw [hn]; exact hk)]
  exact congrArg some hv
theorem ho_put {a ci k idx N : Nat} {Cn : String} {T : u_T} {ty : Nat → FieldType} {ft : FieldType} {v : Value} {S' : Hp} (C : ho_I p s m args meth c own cc nL ret) (F : ho_F ci Cn T ty N) (hR : ho_R Y E A s H0 H locs S) (ha : a ∈ Y.1 ∧ Y.2.1 a = (1, ci)) (hn : Y.2.2.2.2.2 ci = N) (hk : k < N) (hw : Cond.fieldLink own idx (T k).1 (T k).2.1 (T k).2.2.1 ∈ gw) (hfin : (T k).2.2.2 = false) (hd : parseFieldDescriptor (T k).2.2.1 = some ft) (hna : narrow ft v = v) (hfit : fits ft v = true)
    (hv : ho_v Y E S' a ci k = v) (hv2 : ∀ j, j ≠ k → ho_v Y E S' a ci j = ho_v Y E S a ci j) (hb2 : ∀ b, b ≠ a → ho_c Y E S' b = ho_c Y E S b) (hdg : decode cc pc = .ok (.putfield idx, 3))
    (kk : ∀ (H1 : Heap) (locs1 : List Loc), ho_R Y E A s H0 H1 locs1 S' → W p l e R s m args below meth c H1 locs1 0 0 Q (F0 m (pc + 3) ls rest)) : W p l e R s m args below meth c H locs 0 0 Q (F0 m pc ls (v :: .ref (E.2.1 a) :: rest)) := by
  obtain ⟨hx, hb, -, -, hown, hts, -⟩ := C
  obtain ⟨q, hq0, hq⟩ := ho_at ha.1
  have he := hq E S
  rw [ho_c1 ha.2] at he
  obtain ⟨hK, hP, hD, hS⟩ := hR
  have e1 : ((List.range (Y.2.2.2.2.2 ci)).map (ho_v Y E S a ci)).set k v = (List.range (Y.2.2.2.2.2 ci)).map (ho_v Y E S' a ci) := ho_fs hv hv2
  refine va_put hx hb hts F.2.1 ty F.2.2.1 F.2.2.2 hown hK hP hD hS q he F.1 k hk (hts _ hw) (fun _ h9 => h9) hfin hd hna hfit (by rw [List.length_map, List.length_range, hn]; exact hk) hdg (fun H1 locs1 hP hD2 hS => ?_)
  rw [e1, ← ho_c1 ha.2, ho_set hD hq0 hb2] at hP hD2
  exact kk H1 locs1 ⟨hK, hP, hD2, hS⟩
end HO
end
section
section HO2
variable {p : Program} {l : Launch} {e : Env} {R : Room} {s : State} {m : MethodId} {args : Array Value} {below : List Frame} {meth : Method} {c : Code} {H H0 : Heap} {locs : List Loc} {Q : State → Prop}
variable {Y : Sy} {E : Ev} {A : Nat → Prop} {S : Hp} {own : String} {cc : ByteArray} {nL : Nat} {ret : Option FieldType} {pc : Nat} {ls : Array Slot} {rest : List Value}
/-- a field by its link: the class's number, the place, the kind -/
abbrev ho_f (Y : Sy) (own : String) (ci : Nat) (T : u_T) (N idx k kd : Nat) (ft : FieldType) (fin : Bool) : Prop := Y.2.2.2.2.2 ci = N ∧ k < N ∧ Cond.fieldLink own idx (T k).1 (T k).2.1 (T k).2.2.1 ∈ gw ∧ Y.2.2.1 ci k = kd ∧ (T k).2.2.2 = fin ∧ parseFieldDescriptor (T k).2.2.1 = some ft
theorem ho_getI {a ci k idx N : Nat} {Cn : String} {T : u_T} {ty : Nat → FieldType} {ft : FieldType} {fin : Bool} (C : ho_I p s m args meth c own cc nL ret) (F : ho_F ci Cn T ty N) (hf : ho_f Y own ci T N idx k 0 ft fin) (hR : ho_R Y E A s H0 H locs S) (ha : a ∈ Y.1 ∧ Y.2.1 a = (1, ci)) (hdg : decode cc pc = .ok (.getfield idx, 3))
    (kk : W p l e R s m args below meth c H locs 0 0 Q (F0 m (pc + 3) ls (.int (S.1 a k) :: rest))) : W p l e R s m args below meth c H locs 0 0 Q (F0 m pc ls (.ref (E.2.1 a) :: rest)) :=
  ho_get C F hR ha hf.1 hf.2.1 hf.2.2.1 (by unfold ho_v; rw [if_pos hf.2.2.2.1]) hdg kk
theorem ho_getJ {a ci k idx N : Nat} {Cn : String} {T : u_T} {ty : Nat → FieldType} {ft : FieldType} {fin : Bool} (C : ho_I p s m args meth c own cc nL ret) (F : ho_F ci Cn T ty N) (hf : ho_f Y own ci T N idx k 1 ft fin) (hR : ho_R Y E A s H0 H locs S) (ha : a ∈ Y.1 ∧ Y.2.1 a = (1, ci)) (hdg : decode cc pc = .ok (.getfield idx, 3))
    (kk : W p l e R s m args below meth c H locs 0 0 Q (F0 m (pc + 3) ls (.long (S.2.1 a k) :: rest))) : W p l e R s m args below meth c H locs 0 0 Q (F0 m pc ls (.ref (E.2.1 a) :: rest)) :=
  ho_get C F hR ha hf.1 hf.2.1 hf.2.2.1 (by unfold ho_v; rw [if_neg (by rw [hf.2.2.2.1]; decide), if_pos hf.2.2.2.1]) hdg kk
theorem ho_getR {a ci k idx N a' : Nat} {Cn : String} {T : u_T} {ty : Nat → FieldType} {ft : FieldType} {fin : Bool} (C : ho_I p s m args meth c own cc nL ret) (F : ho_F ci Cn T ty N) (hf : ho_f Y own ci T N idx k 2 ft fin) (hR : ho_R Y E A s H0 H locs S) (ha : a ∈ Y.1 ∧ Y.2.1 a = (1, ci)) (hp : Y.2.2.2.1 a k = a') (hdg : decode cc pc = .ok (.getfield idx, 3))
    (kk : W p l e R s m args below meth c H locs 0 0 Q (F0 m (pc + 3) ls (.ref (E.2.1 a') :: rest))) : W p l e R s m args below meth c H locs 0 0 Q (F0 m pc ls (.ref (E.2.1 a) :: rest)) :=
  ho_get C F hR ha hf.1 hf.2.1 hf.2.2.1 (by unfold ho_v; rw [if_neg (by rw [hf.2.2.2.1]; decide), if_neg (by rw [hf.2.2.2.1]; decide), if_pos hf.2.2.2.1, hp]) hdg kk
theorem ho_getP {a ci k idx N : Nat} {Cn : String} {T : u_T} {ty : Nat → FieldType} {ft : FieldType} {fin : Bool} (C : ho_I p s m args meth c own cc nL ret) (F : ho_F ci Cn T ty N) (hf : ho_f Y own ci T N idx k 3 ft fin) (hR : ho_R Y E A s H0 H locs S) (ha : a ∈ Y.1 ∧ Y.2.1 a = (1, ci)) (hdg : decode cc pc = .ok (.getfield idx, 3))
    (kk : W p l e R s m args below meth c H locs 0 0 Q (F0 m (pc + 3) ls (.ref (E.2.1 (S.2.2 a k)) :: rest))) : W p l e R s m args below meth c H locs 0 0 Q (F0 m pc ls (.ref (E.2.1 a) :: rest)) :=
  ho_get C F hR ha hf.1 hf.2.1 hf.2.2.1 (by unfold ho_v; rw [if_neg (by rw [hf.2.2.2.1]; decide), if_neg (by rw [hf.2.2.2.1]; decide), if_neg (by rw [hf.2.2.2.1]; decide)]) hdg kk
theorem ho_vI {a ci k : Nat} {v : Int32} (hk : Y.2.2.1 ci k = 0) : ho_v Y E (ho_sI S a k v) a ci k = .int v ∧ ∀ j, j ≠ k → ho_v Y E (ho_sI S a k v) a ci j = ho_v Y E S a ci j := by
  have e : (ho_sI S a k v).1 a = upd (S.1 a) k v := if_pos rfl
  refine ⟨?_, fun j hj => ?_⟩
  · unfold ho_v
    rw [if_pos hk, e, pk_us]
  · unfold ho_v
    rw [e, pk_un hj]
    rfl
theorem ho_vJ {a ci k : Nat} {v : Int64} (hk : Y.2.2.1 ci k = 1) : ho_v Y E (ho_sJ S a k v) a ci k = .long v ∧ ∀ j, j ≠ k → ho_v Y E (ho_sJ S a k v) a ci j = ho_v Y E S a ci j := by
  have e : (ho_sJ S a k v).2.1 a = vp_updL (S.2.1 a) k v := if_pos rfl
  refine ⟨?_, fun j hj => ?_⟩
  · unfold ho_v
    rw [if_neg (by rw [hk]; decide), if_pos hk, e, pk_uLs]
  · unfold ho_v
    rw [e, pk_uLn hj]
    rfl
theorem ho_vP {a ci k : Nat} {v : Nat} (hk : Y.2.2.1 ci k = 3) : ho_v Y E (ho_sP S a k v) a ci k = .ref (E.2.1 v) ∧ ∀ j, j ≠ k → ho_v Y E (ho_sP S a k v) a ci j = ho_v Y E S a ci j := by
  have e : (ho_sP S a k v).2.2 a = va_up (S.2.2 a) k v := if_pos rfl
  refine ⟨?_, fun j hj => ?_⟩
  · unfold ho_v
    rw [if_neg (by rw [hk]; decide), if_neg (by rw [hk]; decide), if_neg (by rw [hk]; decide), e]
    unfold va_up
    rw [if_pos rfl]
  · have e2 : va_up (S.2.2 a) k v j = S.2.2 a j := if_neg hj
    unfold ho_v
    rw [e, e2]
    rfl
theorem ho_putI {a ci k idx N : Nat} {Cn : String} {T : u_T} {ty : Nat → FieldType} {v : Int32} (C : ho_I p s m args meth c own cc nL ret) (F : ho_F ci Cn T ty N) (hf : ho_f Y own ci T N idx k 0 .int false) (hR : ho_R Y E A s H0 H locs S) (ha : a ∈ Y.1 ∧ Y.2.1 a = (1, ci)) (hdg : decode cc pc = .ok (.putfield idx, 3))
    (kk : ∀ (H1 : Heap) (locs1 : List Loc), ho_R Y E A s H0 H1 locs1 (ho_sI S a k v) → W p l e R s m args below meth c H1 locs1 0 0 Q (F0 m (pc + 3) ls rest)) : W p l e R s m args below meth c H locs 0 0 Q (F0 m pc ls (.int v :: .ref (E.2.1 a) :: rest)) :=
  ho_put C F hR ha hf.1 hf.2.1 hf.2.2.1 hf.2.2.2.2.1 hf.2.2.2.2.2 (vp_nar_int v) rfl (ho_vI hf.2.2.2.1).1 (ho_vI hf.2.2.2.1).2 ho_cI hdg kk
theorem ho_putZ {a ci k idx N : Nat} {Cn : String} {T : u_T} {ty : Nat → FieldType} {v : Int32} (C : ho_I p s m args meth c own cc nL ret) (F : ho_F ci Cn T ty N) (hf : ho_f Y own ci T N idx k 0 .boolean false) (hR : ho_R Y E A s H0 H locs S) (ha : a ∈ Y.1 ∧ Y.2.1 a = (1, ci)) (hz : v = 0 ∨ v = 1) (hdg : decode cc pc = .ok (.putfield idx, 3))
    (kk : ∀ (H1 : Heap) (locs1 : List Loc), ho_R Y E A s H0 H1 locs1 (ho_sI S a k v) → W p l e R s m args below meth c H1 locs1 0 0 Q (F0 m (pc + 3) ls rest)) : W p l e R s m args below meth c H locs 0 0 Q (F0 m pc ls (.int v :: .ref (E.2.1 a) :: rest)) :=
  ho_put C F hR ha hf.1 hf.2.1 hf.2.2.1 hf.2.2.2.2.1 hf.2.2.2.2.2 (by rcases hz with rfl | rfl <;> decide) (by rcases hz with rfl | rfl <;> decide) (ho_vI hf.2.2.2.1).1 (ho_vI hf.2.2.2.1).2 ho_cI hdg kk
theorem ho_putJ {a ci k idx N : Nat} {Cn : String} {T : u_T} {ty : Nat → FieldType} {v : Int64} (C : ho_I p s m args meth c own cc nL ret) (F : ho_F ci Cn T ty N) (hf : ho_f Y own ci T N idx k 1 .long false) (hR : ho_R Y E A s H0 H locs S) (ha : a ∈ Y.1 ∧ Y.2.1 a = (1, ci)) (hdg : decode cc pc = .ok (.putfield idx, 3))
    (kk : ∀ (H1 : Heap) (locs1 : List Loc), ho_R Y E A s H0 H1 locs1 (ho_sJ S a k v) → W p l e R s m args below meth c H1 locs1 0 0 Q (F0 m (pc + 3) ls rest)) : W p l e R s m args below meth c H locs 0 0 Q (F0 m pc ls (.long v :: .ref (E.2.1 a) :: rest)) :=
  ho_put C F hR ha hf.1 hf.2.1 hf.2.2.1 hf.2.2.2.2.1 hf.2.2.2.2.2 rfl rfl (ho_vJ hf.2.2.2.1).1 (ho_vJ hf.2.2.2.1).2 ho_cJ hdg kk
theorem ho_putP {a ci k idx N : Nat} {Cn D : String} {T : u_T} {ty : Nat → FieldType} {v : Nat} (C : ho_I p s m args meth c own cc nL ret) (F : ho_F ci Cn T ty N) (hf : ho_f Y own ci T N idx k 3 (.object D) false) (hR : ho_R Y E A s H0 H locs S) (ha : a ∈ Y.1 ∧ Y.2.1 a = (1, ci)) (hdg : decode cc pc = .ok (.putfield idx, 3))
    (kk : ∀ (H1 : Heap) (locs1 : List Loc), ho_R Y E A s H0 H1 locs1 (ho_sP S a k v) → W p l e R s m args below meth c H1 locs1 0 0 Q (F0 m (pc + 3) ls rest)) : W p l e R s m args below meth c H locs 0 0 Q (F0 m pc ls (.ref (E.2.1 v) :: .ref (E.2.1 a) :: rest)) :=
  ho_put C F hR ha hf.1 hf.2.1 hf.2.2.1 hf.2.2.2.2.1 hf.2.2.2.2.2 rfl rfl (ho_vP hf.2.2.2.1).1 (ho_vP hf.2.2.2.1).2 ho_cP hdg kk
-- arrays
theorem ho_cA {a n t : Nat} (hs : Y.2.1 a = (t, n)) : (t = 2 → ho_c Y E S a = .inl (E.2.2 0, n, .inl (S.1 a))) ∧ (t = 3 → ho_c Y E S a = .inl (E.2.2 1, n, .inl (S.1 a))) ∧ (t = 4 → ho_c Y E S a = .inl (E.2.2 2, n, .inl (S.1 a))) ∧ (t = 5 → ho_c Y E S a = .inl (E.2.2 3, n, .inr (.inl (S.2.1 a)))) ∧ (t = 6 → ho_c Y E S a = .inl (E.2.2 4, n, .inl (S.1 a)))
    ∧ (t = 7 → ho_c Y E S a = .inl (E.2.2 5, n, .inr (.inr (.inr (.inr (fun i => some (E.2.1 (Y.2.2.2.2.1 a i)))))))) ∧ (t = 8 → ho_c Y E S a = .inl (E.2.2 6, n, .inr (.inr (.inr (.inr (fun i => some (E.2.1 (Y.2.2.2.2.1 a i)))))))) := by
  refine ⟨?_, ?_, ?_, ?_, ?_, ?_, ?_⟩ <;> (intro ht; subst ht; unfold ho_c; rw [hs]; rfl)
theorem ho_uI {a k : Nat} {v : Int32} : (ho_sI S a k v).1 a = upd (S.1 a) k v := if_pos rfl
theorem ho_uJ {a k : Nat} {v : Int64} : (ho_sJ S a k v).2.1 a = vp_updL (S.2.1 a) k v := if_pos rfl
theorem ho_ild {a n : Nat} {i : Int32} (C : ho_I p s m args meth c own cc nL ret) (hR : ho_R Y E A s H0 H locs S) (ha : a ∈ Y.1 ∧ Y.2.1 a = (4, n)) (hin : vp_in i n) (hdg : decode cc pc = .ok (.iaload, 1))
    (kk : W p l e R s m args below meth c H locs 0 0 Q (F0 m (pc + 1) ls (.int (S.1 a i.toNatClampNeg) :: rest))) : W p l e R s m args below meth c H locs 0 0 Q (F0 m pc ls (.int i :: .ref (E.2.1 a) :: rest)) := by
  obtain ⟨q, -, hq⟩ := ho_at ha.1
  have he := hq E S
  rw [(ho_cA ha.2).2.2.1 rfl] at he
  exact va_iald C.1 C.2.1 hR.1 hR.2.1 q 2 he rfl hin hdg kk
theorem ho_cld {a n : Nat} {i : Int32} (C : ho_I p s m args meth c own cc nL ret) (hR : ho_R Y E A s H0 H locs S) (ha : a ∈ Y.1 ∧ Y.2.1 a = (3, n)) (hin : vp_in i n) (hdg : decode cc pc = .ok (.caload, 1))
    (kk : W p l e R s m args below meth c H locs 0 0 Q (F0 m (pc + 1) ls (.int (S.1 a i.toNatClampNeg) :: rest))) : W p l e R s m args below meth c H locs 0 0 Q (F0 m pc ls (.int i :: .ref (E.2.1 a) :: rest)) := by
  obtain ⟨q, -, hq⟩ := ho_at ha.1
  have he := hq E S
  rw [(ho_cA ha.2).2.1 rfl] at he
  exact va_cald C.1 C.2.1 hR.1 hR.2.1 q 1 he rfl hin hdg kk
theorem ho_bld {a n : Nat} {i : Int32} (C : ho_I p s m args meth c own cc nL ret) (hR : ho_R Y E A s H0 H locs S) (ha : a ∈ Y.1 ∧ Y.2.1 a = (2, n)) (hin : vp_in i n) (hdg : decode cc pc = .ok (.baload, 1))
    (kk : W p l e R s m args below meth c H locs 0 0 Q (F0 m (pc + 1) ls (.int (S.1 a i.toNatClampNeg) :: rest))) : W p l e R s m args below meth c H locs 0 0 Q (F0 m pc ls (.int i :: .ref (E.2.1 a) :: rest)) := by
  obtain ⟨q, -, hq⟩ := ho_at ha.1
  have he := hq E S
  rw [(ho_cA ha.2).1 rfl] at he
  exact va_bald C.1 C.2.1 hR.1 hR.2.1 q 0 he rfl hin hdg kk
theorem ho_zld {a n : Nat} {i : Int32} (C : ho_I p s m args meth c own cc nL ret) (hR : ho_R Y E A s H0 H locs S) (ha : a ∈ Y.1 ∧ Y.2.1 a = (6, n)) (hin : vp_in i n) (hdg : decode cc pc = .ok (.baload, 1))
    (kk : W p l e R s m args below meth c H locs 0 0 Q (F0 m (pc + 1) ls (.int (S.1 a i.toNatClampNeg) :: rest))) : W p l e R s m args below meth c H locs 0 0 Q (F0 m pc ls (.int i :: .ref (E.2.1 a) :: rest)) := by
  obtain ⟨q, -, hq⟩ := ho_at ha.1
  have he := hq E S
  rw [(ho_cA ha.2).2.2.2.2.1 rfl] at he
  exact va_zald C.1 C.2.1 hR.1 hR.2.1 q 4 he rfl hin hdg kk
theorem ho_lld {a n : Nat} {i : Int32} (C : ho_I p s m args meth c own cc nL ret) (hR : ho_R Y E A s H0 H locs S) (ha : a ∈ Y.1 ∧ Y.2.1 a = (5, n)) (hin : vp_in i n) (hdg : decode cc pc = .ok (.laload, 1))
    (kk : W p l e R s m args below meth c H locs 0 0 Q (F0 m (pc + 1) ls (.long (S.2.1 a i.toNatClampNeg) :: rest))) : W p l e R s m args below meth c H locs 0 0 Q (F0 m pc ls (.int i :: .ref (E.2.1 a) :: rest)) := by
  obtain ⟨q, -, hq⟩ := ho_at ha.1
  have he := hq E S
  rw [(ho_cA ha.2).2.2.2.1 rfl] at he
  exact va_lald C.1 C.2.1 hR.1 hR.2.1 q 3 he rfl hin hdg kk
theorem ho_ist {a n : Nat} {i x : Int32} (C : ho_I p s m args meth c own cc nL ret) (hR : ho_R Y E A s H0 H locs S) (ha : a ∈ Y.1 ∧ Y.2.1 a = (4, n)) (hin : vp_in i n) (hdg : decode cc pc = .ok (.iastore, 1))
    (kk : ∀ (H1 : Heap) (locs1 : List Loc), ho_R Y E A s H0 H1 locs1 (ho_sI S a i.toNatClampNeg x) → W p l e R s m args below meth c H1 locs1 0 0 Q (F0 m (pc + 1) ls rest)) : W p l e R s m args below meth c H locs 0 0 Q (F0 m pc ls (.int x :: .int i :: .ref (E.2.1 a) :: rest)) := by
  obtain ⟨q, hq0, hq⟩ := ho_at ha.1
  obtain ⟨hK, hP, hD, hS⟩ := hR
  have he := hq E S
  rw [(ho_cA ha.2).2.2.1 rfl] at he
  refine va_iast C.1 C.2.1 hK hP hD hS q 2 he rfl hin hdg (fun H1 locs1 hP hD2 hS => ?_)
  rw [← ho_uI, ← (ho_cA (E := E) (S := ho_sI S a i.toNatClampNeg x) ha.2).2.2.1 rfl, ho_set hD hq0 ho_cI] at hP hD2
  exact kk H1 locs1 ⟨hK, hP, hD2, hS⟩
theorem ho_bst {a n : Nat} {i x : Int32} (C : ho_I p s m args meth c own cc nL ret) (hR : ho_R Y E A s H0 H locs S) (ha : a ∈ Y.1 ∧ Y.2.1 a = (2, n)) (hin : vp_in i n) (hdg : decode cc pc = .ok (.bastore, 1))
    (kk : ∀ (H1 : Heap) (locs1 : List Loc), ho_R Y E A s H0 H1 locs1 (ho_sI S a i.toNatClampNeg (vp_nar .byte x)) → W p l e R s m args below meth c H1 locs1 0 0 Q (F0 m (pc + 1) ls rest)) : W p l e R s m args below meth c H locs 0 0 Q (F0 m pc ls (.int x :: .int i :: .ref (E.2.1 a) :: rest)) := by
  obtain ⟨q, hq0, hq⟩ := ho_at ha.1
  obtain ⟨hK, hP, hD, hS⟩ := hR
  have he := hq E S
  rw [(ho_cA ha.2).1 rfl] at he
  refine va_bast C.1 C.2.1 hK hP hD hS q 0 he rfl hin hdg (fun H1 locs1 hP hD2 hS => ?_)
  rw [← ho_uI, ← (ho_cA (E := E) (S := ho_sI S a i.toNatClampNeg (vp_nar .byte x)) ha.2).1 rfl, ho_set hD hq0 ho_cI] at hP hD2
  exact kk H1 locs1 ⟨hK, hP, hD2, hS⟩
theorem ho_zst {a n : Nat} {i x : Int32} (C : ho_I p s m args meth c own cc nL ret) (hR : ho_R Y E A s H0 H locs S) (ha : a ∈ Y.1 ∧ Y.2.1 a = (6, n)) (hin : vp_in i n) (hdg : decode cc pc = .ok (.bastore, 1))
    (kk : ∀ (H1 : Heap) (locs1 : List Loc), ho_R Y E A s H0 H1 locs1 (ho_sI S a i.toNatClampNeg (vp_nar .boolean x)) → W p l e R s m args below meth c H1 locs1 0 0 Q (F0 m (pc + 1) ls rest)) : W p l e R s m args below meth c H locs 0 0 Q (F0 m pc ls (.int x :: .int i :: .ref (E.2.1 a) :: rest)) := by
  obtain ⟨q, hq0, hq⟩ := ho_at ha.1
  obtain ⟨hK, hP, hD, hS⟩ := hR
  have he := hq E S
  rw [(ho_cA ha.2).2.2.2.2.1 rfl] at he
  refine va_zast C.1 C.2.1 hK hP hD hS q 4 he rfl hin hdg (fun H1 locs1 hP hD2 hS => ?_)
  rw [← ho_uI, ← (ho_cA (E := E) (S := ho_sI S a i.toNatClampNeg (vp_nar .boolean x)) ha.2).2.2.2.2.1 rfl, ho_set hD hq0 ho_cI] at hP hD2
  exact kk H1 locs1 ⟨hK, hP, hD2, hS⟩
theorem ho_lst {a n : Nat} {i : Int32} {x : Int64} (C : ho_I p s m args meth c own cc nL ret) (hR : ho_R Y E A s H0 H locs S) (ha : a ∈ Y.1 ∧ Y.2.1 a = (5, n)) (hin : vp_in i n) (hdg : decode cc pc = .ok (.lastore, 1))
    (kk : ∀ (H1 : Heap) (locs1 : List Loc), ho_R Y E A s H0 H1 locs1 (ho_sJ S a i.toNatClampNeg x) → W p l e R s m args below meth c H1 locs1 0 0 Q (F0 m (pc + 1) ls rest)) : W p l e R s m args below meth c H locs 0 0 Q (F0 m pc ls (.long x :: .int i :: .ref (E.2.1 a) :: rest)) := by
  obtain ⟨q, hq0, hq⟩ := ho_at ha.1
  obtain ⟨hK, hP, hD, hS⟩ := hR
  have he := hq E S
  rw [(ho_cA ha.2).2.2.2.1 rfl] at he
  refine va_last C.1 C.2.1 hK hP hD hS q 3 he rfl hin hdg (fun H1 locs1 hP hD2 hS => ?_)
  rw [← ho_uJ, ← (ho_cA (E := E) (S := ho_sJ S a i.toNatClampNeg x) ha.2).2.2.2.1 rfl, ho_set hD hq0 ho_cJ] at hP hD2
  exact kk H1 locs1 ⟨hK, hP, hD2, hS⟩
theorem ho_alen {a n t : Nat} (ht : 2 ≤ t ∧ t ≤ 6) (C : ho_I p s m args meth c own cc nL ret) (hR : ho_R Y E A s H0 H locs S) (ha : a ∈ Y.1 ∧ Y.2.1 a = (t, n)) (hdg : decode cc pc = .ok (.arraylength, 1))
    (kk : W p l e R s m args below meth c H locs 0 0 Q (F0 m (pc + 1) ls (.int (Int32.ofNat n) :: rest))) : W p l e R s m args below meth c H locs 0 0 Q (F0 m pc ls (.ref (E.2.1 a) :: rest)) := by
  obtain ⟨q, -, hq⟩ := ho_at ha.1
  have he := hq E S
  have h5 : t = 2 ∨ t = 3 ∨ t = 4 ∨ t = 5 ∨ t = 6 := by omega
  rcases h5 with h | h | h | h | h
  · rw [(ho_cA ha.2).1 h] at he
    exact va_alen C.1 C.2.1 hR.1 hR.2.1 q 0 he rfl rfl hdg kk
  · rw [(ho_cA ha.2).2.1 h] at he
    exact va_alen C.1 C.2.1 hR.1 hR.2.1 q 1 he rfl rfl hdg kk
  · rw [(ho_cA ha.2).2.2.1 h] at he
    exact va_alen C.1 C.2.1 hR.1 hR.2.1 q 2 he rfl rfl hdg kk
  · rw [(ho_cA ha.2).2.2.2.1 h] at he
    exact va_alen C.1 C.2.1 hR.1 hR.2.1 q 3 he rfl rfl hdg kk
  · rw [(ho_cA ha.2).2.2.2.2.1 h] at he
    exact va_alen C.1 C.2.1 hR.1 hR.2.1 q 4 he rfl rfl hdg kk
end HO2
end
section
/-! contracts over the whole heap of a system, calls, ends -/
def ho_pc (Y : Sy) (E : Ev) (S : Hp) (sz : Nat) (U : State) : Prop := U.heap.size = sz ∧ va_P E.1 vwCl (ho_w Y E S) U.heap ∧ va_K E.1 vwCl (ho_t E) U ∧ va_D (fun _ => True) (ho_w Y E S)
def ho_Q (Y : Sy) (E : Ev) (S0 : Hp) (sz : Nat) (x : Option Value × Hp) : Array Value → State → Outcome → State → Prop := fun _ st oc t => oc = .returned x.1 ∧ (va_P E.1 vwCl (ho_w Y E x.2) t.heap ∧ va_D (va_A (ho_w Y E S0) sz) (ho_w Y E x.2)) ∧ va_F (va_A (ho_w Y E S0) sz) st t
def ho_rm (d : Nat) : Room := { frames := d, cells := 0, slots := 0, locals := 64 * d }
def ho_ws (y : MethodName) (cc : ByteArray) (mL : Nat) (ret : Option FieldType) : List Cond := .code y cc mL ret :: gw
def ho_M (l : Launch) (Y : Sy) (E : Ev) (y : MethodName) (cc : ByteArray) (mL : Nat) (ret : Option FieldType) (d : Nat) (av : List Value) (S : Hp) (x : Option Value × Hp) : Prop :=
  ∀ sz : Nat, Met l y (ho_ws y cc mL ret) (ho_rm d) (va_Pc av (ho_pc Y E S sz)) (ho_Q Y E S sz x) 0 0 (va_A (ho_w Y E S) sz)
/-- a method's end -/
abbrev ho_Z (Y : Sy) (E : Ev) (S0 : Hp) (below : List Frame) (args : Array Value) (s : State) (x : Option Value × Hp) : State → Prop := MQ below (ho_Q Y E S0 s.heap.size x) args s 0 0 (va_A (ho_w Y E S0) s.heap.size)
theorem ho_in {l : Launch} {Y : Sy} {E : Ev} {y : MethodName} {cc : ByteArray} {mL : Nat} {ret : Option FieldType} {d : Nat} {av : List Value} {S : Hp} {x : Option Value × Hp} (hy : plainName y.cls = true) (ha : (lg_sl av).length ≤ mL)
    (body : ∀ (p : Program) (e : Env) (s : State) (m : MethodId) (args : Array Value) (below : List Frame) (meth : Method) (c : Code), ho_I p s m args meth c y.cls cc mL ret → ho_R Y E (va_A (ho_w Y E S) s.heap.size) s s.heap s.heap [] S → ∀ ls : Array Slot, lv_has ls mL (lv_args 0 av) → W p l e (ho_rm d) s m args below meth c s.heap [] 0 0 (ho_Z Y E S below args s x) (F0 m 0 ls [])) : ho_M l Y E y cc mL ret d av S x := by
  intro sz
  refine Met.ofW (cc := cc) (maxL := mL) (ret := ret) hy rfl ?_
  intro p e s m args below meth c s₁ B hml hv
  obtain ⟨rfl, hsz, hP, hK, hD⟩ := hv
  subst hsz
  have hts := atoms_spec (ws := ho_ws y cc mL ret) B.pre
  have hl := lv_entry av (n := mL) ha
  rw [lg_entry_eq]
  exact body p e s m _ below meth c ⟨B.exec, B.bytes, hml, B.returns, findClass_of_methodNamed B.named, fun w hw => hts w (List.mem_cons_of_mem _ hw), B.notSynchronized⟩ ⟨hK, hP, hD.self, va_S.rf⟩ _ hl
section HO3
variable {p : Program} {l : Launch} {e : Env} {R : Room} {s : State} {m : MethodId} {args : Array Value} {below : List Frame} {meth : Method} {c : Code} {H H0 : Heap} {locs : List Loc} {Q : State → Prop}
variable {Y : Sy} {E : Ev} {A : Nat → Prop} {S S0 : Hp} {own : String} {cc : ByteArray} {nL : Nat} {ret : Option FieldType} {pc : Nat} {ls : Array Slot} {rest : List Value}
theorem ho_fin {x : Option Value} (hR : ho_R Y E (va_A (ho_w Y E S0) s.heap.size) s s.heap H locs S) : ∀ t : State, t.heap = H → s.WarmedH t.vm → ho_Q Y E S0 s.heap.size (x, S) args s (.returned x) t := by
  intro t ht _
  obtain ⟨-, hP, hD, hS⟩ := hR
  exact ⟨rfl, ⟨by rw [ht]; exact hP, hD⟩, hS.F ht⟩
theorem ho_iret {v : Int32} {r : Int32 × Hp} (C : ho_I p s m args meth c own cc nL (some .int)) (hR : ho_R Y E (va_A (ho_w Y E S0) s.heap.size) s s.heap H locs S) (h : some (v, S) = some r) (hdg : decode cc pc = .ok (.ireturn, 1)) : W p l e R s m args below meth c H locs 0 0 (ho_Z Y E S0 below args s (some (.int r.1), r.2)) (F0 m pc ls [.int v]) := by
  obtain rfl := Option.some.inj h
  exact W.iret C.1 C.2.1 C.2.2.2.1 (ho_fin hR) hR.2.2.2.2.2 hdg (hlocks := C.2.2.2.2.2.2)
theorem ho_zret {v : Int32} {r : Int32 × Hp} (C : ho_I p s m args meth c own cc nL (some .boolean)) (hR : ho_R Y E (va_A (ho_w Y E S0) s.heap.size) s s.heap H locs S) (hz : v = 0 ∨ v = 1) (h : some (v, S) = some r) (hdg : decode cc pc = .ok (.ireturn, 1)) : W p l e R s m args below meth c H locs 0 0 (ho_Z Y E S0 below args s (some (.int r.1), r.2)) (F0 m pc ls [.int v]) := by
  have hn : narrow .boolean (.int v) = .int v := by rcases hz with rfl | rfl <;> decide
  obtain rfl := Option.some.inj h
  exact W.zret C.1 C.2.1 C.2.2.2.1 hn (ho_fin hR) hR.2.2.2.2.2 hdg (hlocks := C.2.2.2.2.2.2)
theorem ho_lret {v : Int64} {r : Int64 × Hp} (C : ho_I p s m args meth c own cc nL (some .long)) (hR : ho_R Y E (va_A (ho_w Y E S0) s.heap.size) s s.heap H locs S) (h : some (v, S) = some r) (hdg : decode cc pc = .ok (.lreturn, 1)) : W p l e R s m args below meth c H locs 0 0 (ho_Z Y E S0 below args s (some (.long r.1), r.2)) (F0 m pc ls [.long v]) := by
  obtain rfl := Option.some.inj h
  exact W.lret C.1 C.2.1 C.2.2.2.1 (ho_fin hR) hR.2.2.2.2.2 hdg (hlocks := C.2.2.2.2.2.2)
theorem ho_vret {r : Hp} (C : ho_I p s m args meth c own cc nL none) (hR : ho_R Y E (va_A (ho_w Y E S0) s.heap.size) s s.heap H locs S) (h : some S = some r) (hdg : decode cc pc = .ok (.return_, 1)) : W p l e R s m args below meth c H locs 0 0 (ho_Z Y E S0 below args s (none, r)) (F0 m pc ls []) := by
  obtain rfl := Option.some.inj h
  exact W.vret C.1 C.2.1 C.2.2.2.1 (ho_fin hR) hR.2.2.2.2.2 hdg (hlocks := C.2.2.2.2.2.2)
theorem ho_call {x : Option Value × Hp} {a : Array Value} {st0 : List Value} (hr : va_Run p l e R s m args below meth c H locs 0 0 0 0 (F0 m pc ls st0) rest (ho_Q Y E S H.size x a) (va_A (ho_w Y E S) H.size)) (hR : ho_R Y E A s H0 H locs S) (hA : ∀ q, H0.size ≤ q → A q)
    (kk : ∀ (H1 : Heap) (locs1 : List Loc), ho_R Y E A s H0 H1 locs1 x.2 → W p l e R s m args below meth c H1 locs1 0 0 Q (F0 m (pc + 3) ls (x.1.toList ++ rest))) : W p l e R s m args below meth c H locs 0 0 Q (F0 m pc ls st0) := by
  obtain ⟨hK, hP, hD, hS⟩ := hR
  have hA1 : ∀ q, va_A (ho_w Y E S) H.size q → A q := by
    intro q h
    rcases h with ⟨k, e9, h⟩ | h
    · exact hD.2 k (q, e9) h
    · exact hA q (Nat.le_trans hS.1 h)
  intro T hT X
  obtain ⟨v, st₀, t, T', L, h0, X', hL, e1, e2, ⟨hv, ⟨hP1, hD1⟩, hz, hk⟩, st⟩ := hr T hT X
  cases hv
  rw [h0] at hz hk
  obtain ⟨t2, a1, b1⟩ := kk T'.heap (locs ++ L) ⟨hK, by rw [e1]; exact hP1, hD1.weaken (fun _ q _ h => hA1 q.1 h),
    ⟨Nat.le_trans hS.1 (by rw [e1]; exact hz), fun q h1 h2 => by rw [e1, hk q (Nat.lt_of_lt_of_le h1 hS.1) (fun z => h2 (hA1 q z))]; exact hS.2.1 q h1 h2, fun q hq => by
      rcases List.mem_append.mp hq with h | h
      · exact hS.2.2 q h
      · exact hA1 _ (hL q h)⟩⟩ T' rfl X'
  exact ⟨t2, st t2 a1, b1⟩
/-- a call's words -/
abbrev ho_d (y : MethodName) (n : Nat) : Prop := y.cls ≠ "java/lang/invoke/MethodHandle" ∧ y.cls ≠ "java/lang/invoke/VarHandle" ∧ (parseMethodDescriptor y.desc).map (fun d => d.parameters.length) = some n
abbrev ho_y (y : MethodName) (by2 : ByteArray) (mL : Nat) (rt : Option FieldType) (n : Nat) : Prop := Cond.code y by2 mL rt ∈ gw ∧ Cond.initialized y.cls ∈ gw ∧ ho_d y n
abbrev ho_yV (y : MethodName) (by2 : ByteArray) (mL : Nat) (rt : Option FieldType) (n : Nat) : Prop := ho_y y by2 mL rt n ∧ Cond.instanceMethod y ∈ gw ∧ Cond.selects y.cls y y ∈ gw
abbrev ho_yS (y : MethodName) (by2 : ByteArray) (mL : Nat) (rt : Option FieldType) (n : Nat) : Prop := ho_y y by2 mL rt n ∧ Cond.static y ∈ gw
theorem gw_good {w : Cond} (h : w ∈ gw) : (w.onTables && w.keeps) = true ∨ ∃ ty, w = .arrayClass ty := good_of_word (List.mem_filter.mp h).2
theorem ho_good {y : MethodName} {by2 : ByteArray} {mL : Nat} {rt : Option FieldType} (h : Cond.code y by2 mL rt ∈ gw) : GoodIn gw (ho_ws y by2 mL rt) := by
  intro w hw
  rcases List.mem_cons.mp hw with rfl | h2
  · exact ⟨h, gw_good h⟩
  · exact ⟨h2, gw_good h2⟩
theorem ho_blind {av : List Value} {sz : Nat} : FrameBlind (va_Pc av (ho_pc Y E S sz)) := fun a U g mk q => by
  obtain ⟨q0, q1, qP, qK, qD⟩ := q
  exact ⟨q0, q1, qP, va_K.moved (u := U) (U := U.calling g mk a) (Vm.Alike.refl U.vm) qK, qD⟩
theorem ho_pre (hR : ho_R Y E A s H0 H locs S) (av : List Value) : ∀ U : State, U.heap = H → s.WarmedH U.vm → va_Pc av (ho_pc Y E S H.size) av.toArray U := fun U hU hW => by
  obtain ⟨hK, hP, hD, -⟩ := hR
  exact ⟨rfl, by rw [hU], by rw [hU]; exact hP, va_K.moved hW.alike hK, hD.weaken (fun _ _ _ _ => trivial)⟩
/-- invokevirtual of a method of a class of the system -/
theorem ho_callV {y : MethodName} {by2 : ByteArray} {mL n d d2 idx b ci N : Nat} {rt : Option FieldType} {Cn : String} {T : u_T} {ty : Nat → FieldType} {As : List Value} {x : Option Value × Hp} (C : ho_I p s m args meth c own cc nL ret) (F : ho_F ci Cn T ty N) (hM : ho_M l Y E y by2 mL rt d2 (.ref (E.2.1 b) :: As) S x) (hy : ho_yV y by2 mL rt n) (hlk : Cond.methodLink own idx y ∈ gw) (hC : y.cls = Cn) (hb : b ∈ Y.1 ∧ Y.2.1 b = (1, ci)) (hn : As.length = n)
    (hsz : ls.size = nL) (hst : (rest.map fun v => v.category).sum ≤ 8) (hd : d2 + 1 ≤ d) (hmL : mL ≤ 45) (hR : ho_R Y E A s H0 H locs S) (hA : ∀ q, H0.size ≤ q → A q) (hdg : decode cc pc = .ok (.invokevirtual idx, 3))
    (kk : ∀ (H1 : Heap) (locs1 : List Loc), ho_R Y E A s H0 H1 locs1 x.2 → W p l e (ho_rm d) s m args below meth c H1 locs1 0 0 Q (F0 m (pc + 3) ls (x.1.toList ++ rest))) : W p l e (ho_rm d) s m args below meth c H locs 0 0 Q (F0 m pc ls (As.reverse ++ .ref (E.2.1 b) :: rest)) := by
  obtain ⟨hx, hbc, hml, -, hown, hts, -⟩ := C
  obtain ⟨⟨hc, hi, hd1⟩, hin, hse⟩ := hy
  obtain ⟨q, -, hq⟩ := ho_at hb.1
  have he := hq E S
  rw [ho_c1 hb.2] at he
  subst hC
  have hroom : (ho_rm d2).frames + 1 ≤ (ho_rm d).frames ∧ 8 + (mL + 11) + (ho_rm d2).locals ≤ (ho_rm d).locals := ⟨hd, by show 8 + (mL + 11) + 64 * d2 ≤ 64 * d; omega⟩
  refine ho_call (va_runV (As := As) (rest := rest) ⟨hx, hbc, hml, hown, hts⟩ (hM H.size) ⟨callB_of n hts (ho_good hc) rfl rfl rfl (hts _ hi) (hts _ hlk) hd1 hroom, hts _ hin, hts _ hse⟩ ⟨ho_blind, va_recv hR.1 hR.2.1 F.1 he, ho_pre hR _⟩ rfl hn hsz rfl (lv_room hst) hdg ⟨Nat.zero_le _, Nat.zero_le _⟩) hR hA kk
/-- invokestatic -/
theorem ho_callS {y : MethodName} {by2 : ByteArray} {mL n d d2 idx : Nat} {rt : Option FieldType} {As : List Value} {x : Option Value × Hp} (C : ho_I p s m args meth c own cc nL ret) (hM : ho_M l Y E y by2 mL rt d2 As S x) (hy : ho_yS y by2 mL rt n) (hlk : Cond.methodLink own idx y ∈ gw) (hn : As.length = n)
    (hsz : ls.size = nL) (hst : (rest.map fun v => v.category).sum ≤ 8) (hd : d2 + 1 ≤ d) (hmL : mL ≤ 45) (hR : ho_R Y E A s H0 H locs S) (hA : ∀ q, H0.size ≤ q → A q) (hdg : decode cc pc = .ok (.invokestatic idx, 3))
    (kk : ∀ (H1 : Heap) (locs1 : List Loc), ho_R Y E A s H0 H1 locs1 x.2 → W p l e (ho_rm d) s m args below meth c H1 locs1 0 0 Q (F0 m (pc + 3) ls (x.1.toList ++ rest))) : W p l e (ho_rm d) s m args below meth c H locs 0 0 Q (F0 m pc ls (As.reverse ++ rest)) := by
  obtain ⟨hx, hbc, hml, -, hown, hts, -⟩ := C
  obtain ⟨⟨hc, hi, hd1⟩, hstt⟩ := hy
  have hroom : (ho_rm d2).frames + 1 ≤ (ho_rm d).frames ∧ 8 + (mL + 11) + (ho_rm d2).locals ≤ (ho_rm d).locals := ⟨hd, by show 8 + (mL + 11) + 64 * d2 ≤ 64 * d; omega⟩
  refine ho_call (va_runS (As := As) (rest := rest) ⟨hx, hbc, hml, hown, hts⟩ (hM H.size) ⟨callB_of n hts (ho_good hc) rfl rfl rfl (hts _ hi) (hts _ hlk) hd1 hroom, hts _ hstt⟩ ⟨ho_blind, ho_pre hR _⟩ rfl hn hsz rfl (lv_room hst) hdg ⟨Nat.zero_le _, Nat.zero_le _⟩) hR hA kk
theorem ho_A (hR : ho_R Y E (va_A (ho_w Y E S0) s.heap.size) s s.heap H locs S) : ∀ q, s.heap.size ≤ q → va_A (ho_w Y E S0) s.heap.size q := fun _ h => Or.inr h
end HO3
/-! plain words that the methods' functions are made of -/
def ob {α β : Type} (x : Option α) (f : α → Option β) : Option β := match x with
  | some v => f v
  | none => none
def ob2 {α β : Type} (x : Option (α × Hp)) (f : α → Hp → Option β) : Option β := match x with
  | some v => f v.1 v.2
  | none => none
def le1 {α β : Type} (x : α) (f : α → β) : β := f x
theorem ob_ok {α β : Type} {x : Option α} {f : α → Option β} {r : β} (h : ob x f = some r) : ∃ v, x = some v ∧ f v = some r := by
  cases x with
  | none => cases h
  | some v => exact ⟨v, rfl, h⟩
theorem ob2_ok {α β : Type} {x : Option (α × Hp)} {f : α → Hp → Option β} {r : β} (h : ob2 x f = some r) : ∃ v S, x = some (v, S) ∧ f v S = some r := by
  cases x with
  | none => cases h
  | some v => exact ⟨v.1, v.2, rfl, h⟩
theorem le1_ok {α β : Type} {x : α} {f : α → β} {r : β} (h : le1 x f = r) : ∃ v, v = x ∧ f v = r := ⟨x, rfl, h⟩
theorem if_t {α : Type} {c : Prop} {_ : Decidable c} {a b r : α} (h : (if c then a else b) = r) (hc : c) : a = r := by rw [if_pos hc] at h; exact h
theorem if_f {α : Type} {c : Prop} {_ : Decidable c} {a b r : α} (h : (if c then a else b) = r) (hc : ¬ c) : b = r := by rw [if_neg hc] at h; exact h
/-- a place of a row: within it, or none -/
def ix {β : Type} (n : Nat) (i : Int32) (f : Nat → Option β) : Option β := if i < 0 ∨ n ≤ i.toNatClampNeg then none else f i.toNatClampNeg
theorem ix_ok {β : Type} {n : Nat} {i : Int32} {f : Nat → Option β} {r : β} (h : ix n i f = some r) : vp_in i n ∧ f i.toNatClampNeg = some r := by
  unfold ix at h
  by_cases hc : i < 0 ∨ n ≤ i.toNatClampNeg
  · rw [if_pos hc] at h; cases h
  · rw [if_neg hc] at h; exact ⟨hc, h⟩
/-- a truth: 0 or 1 -/
def tr {β : Type} (v : Int32) (x : Option β) : Option β := if v = 0 ∨ v = 1 then x else none
theorem tr_ok {β : Type} {v : Int32} {x : Option β} {r : β} (h : tr v x = some r) : (v = 0 ∨ v = 1) ∧ x = some r := by
  unfold tr at h
  by_cases hc : v = 0 ∨ v = 1
  · rw [if_pos hc] at h; exact ⟨hc, h⟩
  · rw [if_neg hc] at h; cases h
/-- a divisor: not 0 -/
def nz {β : Type} (v : Int32) (x : Option β) : Option β := if v = 0 then none else x
theorem nz_ok {β : Type} {v : Int32} {x : Option β} {r : β} (h : nz v x = some r) : ¬ v = 0 ∧ x = some r := by
  unfold nz at h
  by_cases hc : v = 0
  · rw [if_pos hc] at h; cases h
  · rw [if_neg hc] at h; exact ⟨hc, h⟩
def nzl {β : Type} (v : Int64) (x : Option β) : Option β := if v = 0 then none else x
theorem nzl_ok {β : Type} {v : Int64} {x : Option β} {r : β} (h : nzl v x = some r) : ¬ v = 0 ∧ x = some r := by
  unfold nzl at h
  by_cases hc : v = 0
  · rw [if_pos hc] at h; cases h
  · rw [if_neg hc] at h; exact ⟨hc, h⟩
theorem le1_at {α β : Type} {x y : α} {f : α → β} {r : β} (e : y = x) (h : le1 x f = r) : f y = r := by subst e; exact h
/-- a place of a row, read -/
def ldI {β : Type} (S : Hp) (a n : Nat) (i : Int32) (f : Int32 → Option β) : Option β := if i < 0 ∨ n ≤ i.toNatClampNeg then none else f (S.1 a i.toNatClampNeg)
def ldJ {β : Type} (S : Hp) (a n : Nat) (i : Int32) (f : Int64 → Option β) : Option β := if i < 0 ∨ n ≤ i.toNatClampNeg then none else f (S.2.1 a i.toNatClampNeg)
/-- a place of a row, written -/
def stI {β : Type} (S : Hp) (a n : Nat) (i v : Int32) (f : Hp → Option β) : Option β := if i < 0 ∨ n ≤ i.toNatClampNeg then none else f (ho_sI S a i.toNatClampNeg v)
def stJ {β : Type} (S : Hp) (a n : Nat) (i : Int32) (v : Int64) (f : Hp → Option β) : Option β := if i < 0 ∨ n ≤ i.toNatClampNeg then none else f (ho_sJ S a i.toNatClampNeg v)
theorem ldI_ok {β : Type} {S : Hp} {a n : Nat} {i : Int32} {f : Int32 → Option β} {r : β} (h : ldI S a n i f = some r) : ∃ v, v = S.1 a i.toNatClampNeg ∧ vp_in i n ∧ f v = some r := by
  unfold ldI at h
  by_cases hc : i < 0 ∨ n ≤ i.toNatClampNeg
  · rw [if_pos hc] at h; cases h
  · rw [if_neg hc] at h; exact ⟨_, rfl, hc, h⟩
theorem ldJ_ok {β : Type} {S : Hp} {a n : Nat} {i : Int32} {f : Int64 → Option β} {r : β} (h : ldJ S a n i f = some r) : ∃ v, v = S.2.1 a i.toNatClampNeg ∧ vp_in i n ∧ f v = some r := by
  unfold ldJ at h
  by_cases hc : i < 0 ∨ n ≤ i.toNatClampNeg
  · rw [if_pos hc] at h; cases h
  · rw [if_neg hc] at h; exact ⟨_, rfl, hc, h⟩
theorem stI_ok {β : Type} {S : Hp} {a n : Nat} {i v : Int32} {f : Hp → Option β} {r : β} (h : stI S a n i v f = some r) : ∃ S', S' = ho_sI S a i.toNatClampNeg v ∧ vp_in i n ∧ f S' = some r := by
  unfold stI at h
  by_cases hc : i < 0 ∨ n ≤ i.toNatClampNeg
  · rw [if_pos hc] at h; cases h
  · rw [if_neg hc] at h; exact ⟨_, rfl, hc, h⟩
theorem stJ_ok {β : Type} {S : Hp} {a n : Nat} {i : Int32} {v : Int64} {f : Hp → Option β} {r : β} (h : stJ S a n i v f = some r) : ∃ S', S' = ho_sJ S a i.toNatClampNeg v ∧ vp_in i n ∧ f S' = some r := by
  unfold stJ at h
  by_cases hc : i < 0 ∨ n ≤ i.toNatClampNeg
  · rw [if_pos hc] at h; cases h
  · rw [if_neg hc] at h; exact ⟨_, rfl, hc, h⟩
/-- the goal at a place of a method's code -/
abbrev ho_G (p : Program) (l : Launch) (e : Env) (s : State) (m : MethodId) (args : Array Value) (below : List Frame) (meth : Method) (c : Code) (Y : Sy) (E : Ev) (S0 : Hp) (d mL : Nat) (x : Option Value × Hp) (pc : Nat) (lv : List (Nat × Value)) (st : List Value) (S : Hp) : Prop :=
  ∀ (H : Heap) (locs : List Loc) (ls : Array Slot), ho_R Y E (va_A (ho_w Y E S0) s.heap.size) s s.heap H locs S → lv_has ls mL lv → W p l e (ho_rm d) s m args below meth c H locs 0 0 (ho_Z Y E S0 below args s x) (F0 m pc ls st)
section HO4
variable {p : Program} {l : Launch} {e : Env} {R : Room} {s : State} {m : MethodId} {args : Array Value} {below : List Frame} {meth : Method} {c : Code} {H H0 : Heap} {locs : List Loc} {Q : State → Prop}
variable {Y : Sy} {E : Ev} {A : Nat → Prop} {S S' : Hp} {own : String} {cc : ByteArray} {nL : Nat} {ret : Option FieldType} {pc : Nat} {ls : Array Slot} {rest : List Value}
variable {a ci k idx N n : Nat} {Cn : String} {T : u_T} {ty : Nat → FieldType} {v i : Int32} {w : Int64}
theorem hr_putI (C : ho_I p s m args meth c own cc nL ret) (F : ho_F ci Cn T ty N) (hf : ho_f Y own ci T N idx k 0 .int false) (hR : ho_R Y E A s H0 H locs S) (ha : a ∈ Y.1 ∧ Y.2.1 a = (1, ci)) (e1 : S' = ho_sI S a k v) (hdg : decode cc pc = .ok (.putfield idx, 3))
    (kk : ∀ (H1 : Heap) (locs1 : List Loc), ho_R Y E A s H0 H1 locs1 S' → W p l e R s m args below meth c H1 locs1 0 0 Q (F0 m (pc + 3) ls rest)) : W p l e R s m args below meth c H locs 0 0 Q (F0 m pc ls (.int v :: .ref (E.2.1 a) :: rest)) := by
  subst e1; exact ho_putI C F hf hR ha hdg kk
theorem hr_putZ (C : ho_I p s m args meth c own cc nL ret) (F : ho_F ci Cn T ty N) (hf : ho_f Y own ci T N idx k 0 .boolean false) (hR : ho_R Y E A s H0 H locs S) (ha : a ∈ Y.1 ∧ Y.2.1 a = (1, ci)) (hz : v = 0 ∨ v = 1) (e1 : S' = ho_sI S a k v) (hdg : decode cc pc = .ok (.putfield idx, 3))
    (kk : ∀ (H1 : Heap) (locs1 : List Loc), ho_R Y E A s H0 H1 locs1 S' → W p l e R s m args below meth c H1 locs1 0 0 Q (F0 m (pc + 3) ls rest)) : W p l e R s m args below meth c H locs 0 0 Q (F0 m pc ls (.int v :: .ref (E.2.1 a) :: rest)) := by
  subst e1; exact ho_putZ C F hf hR ha hz hdg kk
theorem hr_putJ (C : ho_I p s m args meth c own cc nL ret) (F : ho_F ci Cn T ty N) (hf : ho_f Y own ci T N idx k 1 .long false) (hR : ho_R Y E A s H0 H locs S) (ha : a ∈ Y.1 ∧ Y.2.1 a = (1, ci)) (e1 : S' = ho_sJ S a k w) (hdg : decode cc pc = .ok (.putfield idx, 3))
    (kk : ∀ (H1 : Heap) (locs1 : List Loc), ho_R Y E A s H0 H1 locs1 S' → W p l e R s m args below meth c H1 locs1 0 0 Q (F0 m (pc + 3) ls rest)) : W p l e R s m args below meth c H locs 0 0 Q (F0 m pc ls (.long w :: .ref (E.2.1 a) :: rest)) := by
  subst e1; exact ho_putJ C F hf hR ha hdg kk
theorem hr_ild (C : ho_I p s m args meth c own cc nL ret) (hR : ho_R Y E A s H0 H locs S) (ha : a ∈ Y.1 ∧ Y.2.1 a = (4, n)) (hin : vp_in i n) (e1 : v = S.1 a i.toNatClampNeg) (hdg : decode cc pc = .ok (.iaload, 1))
    (kk : W p l e R s m args below meth c H locs 0 0 Q (F0 m (pc + 1) ls (.int v :: rest))) : W p l e R s m args below meth c H locs 0 0 Q (F0 m pc ls (.int i :: .ref (E.2.1 a) :: rest)) := by
  subst e1; exact ho_ild C hR ha hin hdg kk
theorem hr_cld (C : ho_I p s m args meth c own cc nL ret) (hR : ho_R Y E A s H0 H locs S) (ha : a ∈ Y.1 ∧ Y.2.1 a = (3, n)) (hin : vp_in i n) (e1 : v = S.1 a i.toNatClampNeg) (hdg : decode cc pc = .ok (.caload, 1))
    (kk : W p l e R s m args below meth c H locs 0 0 Q (F0 m (pc + 1) ls (.int v :: rest))) : W p l e R s m args below meth c H locs 0 0 Q (F0 m pc ls (.int i :: .ref (E.2.1 a) :: rest)) := by
  subst e1; exact ho_cld C hR ha hin hdg kk
theorem hr_bld (C : ho_I p s m args meth c own cc nL ret) (hR : ho_R Y E A s H0 H locs S) (ha : a ∈ Y.1 ∧ Y.2.1 a = (2, n)) (hin : vp_in i n) (e1 : v = S.1 a i.toNatClampNeg) (hdg : decode cc pc = .ok (.baload, 1))
    (kk : W p l e R s m args below meth c H locs 0 0 Q (F0 m (pc + 1) ls (.int v :: rest))) : W p l e R s m args below meth c H locs 0 0 Q (F0 m pc ls (.int i :: .ref (E.2.1 a) :: rest)) := by
  subst e1; exact ho_bld C hR ha hin hdg kk
theorem hr_zld (C : ho_I p s m args meth c own cc nL ret) (hR : ho_R Y E A s H0 H locs S) (ha : a ∈ Y.1 ∧ Y.2.1 a = (6, n)) (hin : vp_in i n) (e1 : v = S.1 a i.toNatClampNeg) (hdg : decode cc pc = .ok (.baload, 1))
    (kk : W p l e R s m args below meth c H locs 0 0 Q (F0 m (pc + 1) ls (.int v :: rest))) : W p l e R s m args below meth c H locs 0 0 Q (F0 m pc ls (.int i :: .ref (E.2.1 a) :: rest)) := by
  subst e1; exact ho_zld C hR ha hin hdg kk
theorem hr_lld (C : ho_I p s m args meth c own cc nL ret) (hR : ho_R Y E A s H0 H locs S) (ha : a ∈ Y.1 ∧ Y.2.1 a = (5, n)) (hin : vp_in i n) (e1 : w = S.2.1 a i.toNatClampNeg) (hdg : decode cc pc = .ok (.laload, 1))
    (kk : W p l e R s m args below meth c H locs 0 0 Q (F0 m (pc + 1) ls (.long w :: rest))) : W p l e R s m args below meth c H locs 0 0 Q (F0 m pc ls (.int i :: .ref (E.2.1 a) :: rest)) := by
  subst e1; exact ho_lld C hR ha hin hdg kk
theorem hr_ist (C : ho_I p s m args meth c own cc nL ret) (hR : ho_R Y E A s H0 H locs S) (ha : a ∈ Y.1 ∧ Y.2.1 a = (4, n)) (hin : vp_in i n) (e1 : S' = ho_sI S a i.toNatClampNeg v) (hdg : decode cc pc = .ok (.iastore, 1))
    (kk : ∀ (H1 : Heap) (locs1 : List Loc), ho_R Y E A s H0 H1 locs1 S' → W p l e R s m args below meth c H1 locs1 0 0 Q (F0 m (pc + 1) ls rest)) : W p l e R s m args below meth c H locs 0 0 Q (F0 m pc ls (.int v :: .int i :: .ref (E.2.1 a) :: rest)) := by
  subst e1; exact ho_ist C hR ha hin hdg kk
theorem hr_bst (C : ho_I p s m args meth c own cc nL ret) (hR : ho_R Y E A s H0 H locs S) (ha : a ∈ Y.1 ∧ Y.2.1 a = (2, n)) (hin : vp_in i n) (e1 : S' = ho_sI S a i.toNatClampNeg (vp_nar .byte v)) (hdg : decode cc pc = .ok (.bastore, 1))
    (kk : ∀ (H1 : Heap) (locs1 : List Loc), ho_R Y E A s H0 H1 locs1 S' → W p l e R s m args below meth c H1 locs1 0 0 Q (F0 m (pc + 1) ls rest)) : W p l e R s m args below meth c H locs 0 0 Q (F0 m pc ls (.int v :: .int i :: .ref (E.2.1 a) :: rest)) := by
  subst e1; exact ho_bst C hR ha hin hdg kk
theorem hr_zst (C : ho_I p s m args meth c own cc nL ret) (hR : ho_R Y E A s H0 H locs S) (ha : a ∈ Y.1 ∧ Y.2.1 a = (6, n)) (hin : vp_in i n) (e1 : S' = ho_sI S a i.toNatClampNeg (vp_nar .boolean v)) (hdg : decode cc pc = .ok (.bastore, 1))
    (kk : ∀ (H1 : Heap) (locs1 : List Loc), ho_R Y E A s H0 H1 locs1 S' → W p l e R s m args below meth c H1 locs1 0 0 Q (F0 m (pc + 1) ls rest)) : W p l e R s m args below meth c H locs 0 0 Q (F0 m pc ls (.int v :: .int i :: .ref (E.2.1 a) :: rest)) := by
  subst e1; exact ho_zst C hR ha hin hdg kk
theorem hr_lst (C : ho_I p s m args meth c own cc nL ret) (hR : ho_R Y E A s H0 H locs S) (ha : a ∈ Y.1 ∧ Y.2.1 a = (5, n)) (hin : vp_in i n) (e1 : S' = ho_sJ S a i.toNatClampNeg w) (hdg : decode cc pc = .ok (.lastore, 1))
    (kk : ∀ (H1 : Heap) (locs1 : List Loc), ho_R Y E A s H0 H1 locs1 S' → W p l e R s m args below meth c H1 locs1 0 0 Q (F0 m (pc + 1) ls rest)) : W p l e R s m args below meth c H locs 0 0 Q (F0 m pc ls (.long w :: .int i :: .ref (E.2.1 a) :: rest)) := by
  subst e1; exact ho_lst C hR ha hin hdg kk
end HO4
section HO5
variable {p : Program} {l : Launch} {e : Env} {s : State} {m : MethodId} {args : Array Value} {below : List Frame} {meth : Method} {c : Code} {H H0 : Heap} {locs : List Loc} {Q : State → Prop}
variable {Y : Sy} {E : Ev} {A : Nat → Prop} {S S' : Hp} {own : String} {cc : ByteArray} {nL : Nat} {ret : Option FieldType} {pc : Nat} {ls : Array Slot} {rest st0 : List Value}
variable {y : MethodName} {by2 : ByteArray} {mL n d d2 idx b ci N : Nat} {rt : Option FieldType} {Cn : String} {T : u_T} {ty : Nat → FieldType} {As : List Value} {v : Int32} {w : Int64}
theorem hr_Vi (C : ho_I p s m args meth c own cc nL ret) (F : ho_F ci Cn T ty N) (hM : ho_M l Y E y by2 mL rt d2 (.ref (E.2.1 b) :: As) S (some (.int v), S')) (hy : ho_yV y by2 mL rt n) (hlk : Cond.methodLink own idx y ∈ gw) (hC : y.cls = Cn) (hb : b ∈ Y.1 ∧ Y.2.1 b = (1, ci)) (hn : As.length = n) (h0 : st0 = As.reverse ++ .ref (E.2.1 b) :: rest)
    (hsz : ls.size = nL) (hst : (rest.map fun v => v.category).sum ≤ 8) (hd : d2 + 1 ≤ d) (hmL : mL ≤ 45) (hR : ho_R Y E A s H0 H locs S) (hA : ∀ q, H0.size ≤ q → A q) (hdg : decode cc pc = .ok (.invokevirtual idx, 3))
    (kk : ∀ (H1 : Heap) (locs1 : List Loc), ho_R Y E A s H0 H1 locs1 S' → W p l e (ho_rm d) s m args below meth c H1 locs1 0 0 Q (F0 m (pc + 3) ls (.int v :: rest))) : W p l e (ho_rm d) s m args below meth c H locs 0 0 Q (F0 m pc ls st0) := by
  subst h0; exact ho_callV C F hM hy hlk hC hb hn hsz hst hd hmL hR hA hdg kk
theorem hr_Vl (C : ho_I p s m args meth c own cc nL ret) (F : ho_F ci Cn T ty N) (hM : ho_M l Y E y by2 mL rt d2 (.ref (E.2.1 b) :: As) S (some (.long w), S')) (hy : ho_yV y by2 mL rt n) (hlk : Cond.methodLink own idx y ∈ gw) (hC : y.cls = Cn) (hb : b ∈ Y.1 ∧ Y.2.1 b = (1, ci)) (hn : As.length = n) (h0 : st0 = As.reverse ++ .ref (E.2.1 b) :: rest)
    (hsz : ls.size = nL) (hst : (rest.map fun v => v.category).sum ≤ 8) (hd : d2 + 1 ≤ d) (hmL : mL ≤ 45) (hR : ho_R Y E A s H0 H locs S) (hA : ∀ q, H0.size ≤ q → A q) (hdg : decode cc pc = .ok (.invokevirtual idx, 3))
    (kk : ∀ (H1 : Heap) (locs1 : List Loc), ho_R Y E A s H0 H1 locs1 S' → W p l e (ho_rm d) s m args below meth c H1 locs1 0 0 Q (F0 m (pc + 3) ls (.long w :: rest))) : W p l e (ho_rm d) s m args below meth c H locs 0 0 Q (F0 m pc ls st0) := by
  subst h0; exact ho_callV C F hM hy hlk hC hb hn hsz hst hd hmL hR hA hdg kk
theorem hr_Vv (C : ho_I p s m args meth c own cc nL ret) (F : ho_F ci Cn T ty N) (hM : ho_M l Y E y by2 mL rt d2 (.ref (E.2.1 b) :: As) S (none, S')) (hy : ho_yV y by2 mL rt n) (hlk : Cond.methodLink own idx y ∈ gw) (hC : y.cls = Cn) (hb : b ∈ Y.1 ∧ Y.2.1 b = (1, ci)) (hn : As.length = n) (h0 : st0 = As.reverse ++ .ref (E.2.1 b) :: rest)
    (hsz : ls.size = nL) (hst : (rest.map fun v => v.category).sum ≤ 8) (hd : d2 + 1 ≤ d) (hmL : mL ≤ 45) (hR : ho_R Y E A s H0 H locs S) (hA : ∀ q, H0.size ≤ q → A q) (hdg : decode cc pc = .ok (.invokevirtual idx, 3))
    (kk : ∀ (H1 : Heap) (locs1 : List Loc), ho_R Y E A s H0 H1 locs1 S' → W p l e (ho_rm d) s m args below meth c H1 locs1 0 0 Q (F0 m (pc + 3) ls rest)) : W p l e (ho_rm d) s m args below meth c H locs 0 0 Q (F0 m pc ls st0) := by
  subst h0; exact ho_callV C F hM hy hlk hC hb hn hsz hst hd hmL hR hA hdg kk
theorem hr_Si (C : ho_I p s m args meth c own cc nL ret) (hM : ho_M l Y E y by2 mL rt d2 As S (some (.int v), S')) (hy : ho_yS y by2 mL rt n) (hlk : Cond.methodLink own idx y ∈ gw) (hn : As.length = n) (h0 : st0 = As.reverse ++ rest)
    (hsz : ls.size = nL) (hst : (rest.map fun v => v.category).sum ≤ 8) (hd : d2 + 1 ≤ d) (hmL : mL ≤ 45) (hR : ho_R Y E A s H0 H locs S) (hA : ∀ q, H0.size ≤ q → A q) (hdg : decode cc pc = .ok (.invokestatic idx, 3))
    (kk : ∀ (H1 : Heap) (locs1 : List Loc), ho_R Y E A s H0 H1 locs1 S' → W p l e (ho_rm d) s m args below meth c H1 locs1 0 0 Q (F0 m (pc + 3) ls (.int v :: rest))) : W p l e (ho_rm d) s m args below meth c H locs 0 0 Q (F0 m pc ls st0) := by
  subst h0; exact ho_callS C hM hy hlk hn hsz hst hd hmL hR hA hdg kk
theorem hr_Sl (C : ho_I p s m args meth c own cc nL ret) (hM : ho_M l Y E y by2 mL rt d2 As S (some (.long w), S')) (hy : ho_yS y by2 mL rt n) (hlk : Cond.methodLink own idx y ∈ gw) (hn : As.length = n) (h0 : st0 = As.reverse ++ rest)
    (hsz : ls.size = nL) (hst : (rest.map fun v => v.category).sum ≤ 8) (hd : d2 + 1 ≤ d) (hmL : mL ≤ 45) (hR : ho_R Y E A s H0 H locs S) (hA : ∀ q, H0.size ≤ q → A q) (hdg : decode cc pc = .ok (.invokestatic idx, 3))
    (kk : ∀ (H1 : Heap) (locs1 : List Loc), ho_R Y E A s H0 H1 locs1 S' → W p l e (ho_rm d) s m args below meth c H1 locs1 0 0 Q (F0 m (pc + 3) ls (.long w :: rest))) : W p l e (ho_rm d) s m args below meth c H locs 0 0 Q (F0 m pc ls st0) := by
  subst h0; exact ho_callS C hM hy hlk hn hsz hst hd hmL hR hA hdg kk
theorem hr_Sv (C : ho_I p s m args meth c own cc nL ret) (hM : ho_M l Y E y by2 mL rt d2 As S (none, S')) (hy : ho_yS y by2 mL rt n) (hlk : Cond.methodLink own idx y ∈ gw) (hn : As.length = n) (h0 : st0 = As.reverse ++ rest)
    (hsz : ls.size = nL) (hst : (rest.map fun v => v.category).sum ≤ 8) (hd : d2 + 1 ≤ d) (hmL : mL ≤ 45) (hR : ho_R Y E A s H0 H locs S) (hA : ∀ q, H0.size ≤ q → A q) (hdg : decode cc pc = .ok (.invokestatic idx, 3))
    (kk : ∀ (H1 : Heap) (locs1 : List Loc), ho_R Y E A s H0 H1 locs1 S' → W p l e (ho_rm d) s m args below meth c H1 locs1 0 0 Q (F0 m (pc + 3) ls rest)) : W p l e (ho_rm d) s m args below meth c H locs 0 0 Q (F0 m pc ls st0) := by
  subst h0; exact ho_callS C hM hy hlk hn hsz hst hd hmL hR hA hdg kk
end HO5
/-- a class's layout words, by their places in the tables -/
theorem ho_inOf {C : String} {T : u_T} {N : Nat} (L : List Nat) (h : (List.range N).all (fun k => decide (lw_tbl[L.getD k 0]? = some (u_lay C T k)) && goodWord (u_lay C T k)) = true) : ∀ w ∈ u_ws C T N, w ∈ gw := by
  intro w hw
  unfold u_ws at hw
  obtain ⟨k, hk, rfl⟩ := List.mem_map.mp hw
  have h1 := List.all_eq_true.mp h k hk
  simp only [Bool.and_eq_true, decide_eq_true_eq] at h1
  exact gw_of h1.1 h1.2
end
section
/-! the reference: one object (0), its rows (place of the field, and 1) -/
def shM : List (Nat × Nat) := [(1, 12), (4, 1600), (0, 0), (0, 0), (0, 0), (0, 0), (0, 0), (0, 0), (0, 0), (0, 0), (4, 6), (3, 4), (3, 4), (3, 4), (3, 6), (3, 6), (3, 5), (3, 5), (3, 4), (3, 4), (3, 5), (3, 4), (3, 5), (3, 4), (3, 5), (3, 6), (3, 4), (3, 5), (3, 4), (3, 6), (3, 5), (3, 5), (3, 4), (3, 4), (3, 2), (3, 3), (3, 3), (3, 3), (3, 3), (3, 3), (0, 0), (4, 6), (5, 36), (4, 6), (4, 24), (4, 36), (4, 20), (4, 4), (4, 4), (4, 4), (4, 3200), (0, 0), (0, 0), (0, 0), (0, 0), (4, 117), (4, 26), (0, 0), (0, 0), (4, 36), (4, 6), (4, 6), (4, 6), (0, 0), (0, 0), (0, 0), (4, 26), (0, 0), (4, 48), (4, 384), (6, 64), (0, 0), (4, 2340), (0, 0), (0, 0), (0, 0), (3, 5), (3, 4), (3, 5), (3, 5), (3, 4), (3, 5), (3, 3), (3, 3), (3, 2), (3, 3), (3, 3), (3, 3), (3, 4), (3, 5), (3, 4), (3, 4), (3, 5), (3, 5), (3, 6), (3, 6), (3, 5), (3, 5), (3, 4), (3, 4), (4, 1700), (0, 0), (4, 1700), (0, 0), (0, 0), (0, 0), (5, 1700), (0, 0), (0, 0), (0, 0), (4, 48), (0, 0)]
def kdM : List Nat := [2, 0, 0, 0, 0, 0, 0, 0, 0, 2, 2, 2, 2, 2, 2, 2, 2, 2, 2, 2, 2, 2, 2, 2, 2, 2, 2, 2, 2, 2, 2, 2, 2, 2, 2, 2, 2, 2, 2, 0, 2, 2, 2, 2, 2, 2, 2, 2, 2, 2, 0, 0, 0, 0, 2, 2, 0, 0, 2, 2, 2, 2, 0, 0, 0, 2, 0, 2, 2, 2, 0, 2, 0, 0, 1, 2, 2, 2, 2, 2, 2, 2, 2, 2, 2, 2, 2, 2, 2, 2, 2, 2, 2, 2, 2, 2, 2, 2, 2, 2, 0, 2, 0, 0, 0, 2, 0, 1, 0, 2, 0]
def yM : Sy := ((List.range 112).filter (fun a => (shM.getD a (0, 0)).1 != 0), fun a => shM.getD a (0, 0), fun _ k => kdM.getD k 0, fun _ k => k + 1, fun _ _ => 0, fun _ => 111)
theorem aM_0 : 0 ∈ yM.1 ∧ yM.2.1 0 = (1, 12) := by decide +kernel
theorem aM_1 : 1 ∈ yM.1 ∧ yM.2.1 1 = (4, 1600) := by decide +kernel
theorem aM_10 : 10 ∈ yM.1 ∧ yM.2.1 10 = (4, 6) := by decide +kernel
theorem aM_11 : 11 ∈ yM.1 ∧ yM.2.1 11 = (3, 4) := by decide +kernel
theorem aM_12 : 12 ∈ yM.1 ∧ yM.2.1 12 = (3, 4) := by decide +kernel
theorem aM_13 : 13 ∈ yM.1 ∧ yM.2.1 13 = (3, 4) := by decide +kernel
theorem aM_14 : 14 ∈ yM.1 ∧ yM.2.1 14 = (3, 6) := by decide +kernel
theorem aM_15 : 15 ∈ yM.1 ∧ yM.2.1 15 = (3, 6) := by decide +kernel
theorem aM_16 : 16 ∈ yM.1 ∧ yM.2.1 16 = (3, 5) := by decide +kernel
theorem aM_17 : 17 ∈ yM.1 ∧ yM.2.1 17 = (3, 5) := by decide +kernel
theorem aM_18 : 18 ∈ yM.1 ∧ yM.2.1 18 = (3, 4) := by decide +kernel
theorem aM_19 : 19 ∈ yM.1 ∧ yM.2.1 19 = (3, 4) := by decide +kernel
theorem aM_20 : 20 ∈ yM.1 ∧ yM.2.1 20 = (3, 5) := by decide +kernel
theorem aM_21 : 21 ∈ yM.1 ∧ yM.2.1 21 = (3, 4) := by decide +kernel
theorem aM_22 : 22 ∈ yM.1 ∧ yM.2.1 22 = (3, 5) := by decide +kernel
theorem aM_23 : 23 ∈ yM.1 ∧ yM.2.1 23 = (3, 4) := by decide +kernel
theorem aM_24 : 24 ∈ yM.1 ∧ yM.2.1 24 = (3, 5) := by decide +kernel
theorem aM_25 : 25 ∈ yM.1 ∧ yM.2.1 25 = (3, 6) := by decide +kernel
theorem aM_26 : 26 ∈ yM.1 ∧ yM.2.1 26 = (3, 4) := by decide +kernel
theorem aM_27 : 27 ∈ yM.1 ∧ yM.2.1 27 = (3, 5) := by decide +kernel
theorem aM_28 : 28 ∈ yM.1 ∧ yM.2.1 28 = (3, 4) := by decide +kernel
theorem aM_29 : 29 ∈ yM.1 ∧ yM.2.1 29 = (3, 6) := by decide +kernel
theorem aM_30 : 30 ∈ yM.1 ∧ yM.2.1 30 = (3, 5) := by decide +kernel
theorem aM_31 : 31 ∈ yM.1 ∧ yM.2.1 31 = (3, 5) := by decide +kernel
theorem aM_32 : 32 ∈ yM.1 ∧ yM.2.1 32 = (3, 4) := by decide +kernel
theorem aM_33 : 33 ∈ yM.1 ∧ yM.2.1 33 = (3, 4) := by decide +kernel
theorem aM_34 : 34 ∈ yM.1 ∧ yM.2.1 34 = (3, 2) := by decide +kernel
theorem aM_35 : 35 ∈ yM.1 ∧ yM.2.1 35 = (3, 3) := by decide +kernel
theorem aM_36 : 36 ∈ yM.1 ∧ yM.2.1 36 = (3, 3) := by decide +kernel
theorem aM_37 : 37 ∈ yM.1 ∧ yM.2.1 37 = (3, 3) := by decide +kernel
theorem aM_38 : 38 ∈ yM.1 ∧ yM.2.1 38 = (3, 3) := by decide +kernel
theorem aM_39 : 39 ∈ yM.1 ∧ yM.2.1 39 = (3, 3) := by decide +kernel
theorem aM_41 : 41 ∈ yM.1 ∧ yM.2.1 41 = (4, 6) := by decide +kernel
theorem aM_42 : 42 ∈ yM.1 ∧ yM.2.1 42 = (5, 36) := by decide +kernel
theorem aM_43 : 43 ∈ yM.1 ∧ yM.2.1 43 = (4, 6) := by decide +kernel
theorem aM_44 : 44 ∈ yM.1 ∧ yM.2.1 44 = (4, 24) := by decide +kernel
theorem aM_45 : 45 ∈ yM.1 ∧ yM.2.1 45 = (4, 36) := by decide +kernel
theorem aM_46 : 46 ∈ yM.1 ∧ yM.2.1 46 = (4, 20) := by decide +kernel
theorem aM_47 : 47 ∈ yM.1 ∧ yM.2.1 47 = (4, 4) := by decide +kernel
theorem aM_48 : 48 ∈ yM.1 ∧ yM.2.1 48 = (4, 4) := by decide +kernel
theorem aM_49 : 49 ∈ yM.1 ∧ yM.2.1 49 = (4, 4) := by decide +kernel
theorem aM_50 : 50 ∈ yM.1 ∧ yM.2.1 50 = (4, 3200) := by decide +kernel
theorem aM_55 : 55 ∈ yM.1 ∧ yM.2.1 55 = (4, 117) := by decide +kernel
theorem aM_56 : 56 ∈ yM.1 ∧ yM.2.1 56 = (4, 26) := by decide +kernel
theorem aM_59 : 59 ∈ yM.1 ∧ yM.2.1 59 = (4, 36) := by decide +kernel
theorem aM_60 : 60 ∈ yM.1 ∧ yM.2.1 60 = (4, 6) := by decide +kernel
theorem aM_61 : 61 ∈ yM.1 ∧ yM.2.1 61 = (4, 6) := by decide +kernel
theorem aM_62 : 62 ∈ yM.1 ∧ yM.2.1 62 = (4, 6) := by decide +kernel
theorem aM_66 : 66 ∈ yM.1 ∧ yM.2.1 66 = (4, 26) := by decide +kernel
theorem aM_68 : 68 ∈ yM.1 ∧ yM.2.1 68 = (4, 48) := by decide +kernel
theorem aM_69 : 69 ∈ yM.1 ∧ yM.2.1 69 = (4, 384) := by decide +kernel
theorem aM_70 : 70 ∈ yM.1 ∧ yM.2.1 70 = (6, 64) := by decide +kernel
theorem aM_72 : 72 ∈ yM.1 ∧ yM.2.1 72 = (4, 2340) := by decide +kernel
theorem aM_76 : 76 ∈ yM.1 ∧ yM.2.1 76 = (3, 5) := by decide +kernel
theorem aM_77 : 77 ∈ yM.1 ∧ yM.2.1 77 = (3, 4) := by decide +kernel
theorem aM_78 : 78 ∈ yM.1 ∧ yM.2.1 78 = (3, 5) := by decide +kernel
theorem aM_79 : 79 ∈ yM.1 ∧ yM.2.1 79 = (3, 5) := by decide +kernel
theorem aM_80 : 80 ∈ yM.1 ∧ yM.2.1 80 = (3, 4) := by decide +kernel
theorem aM_81 : 81 ∈ yM.1 ∧ yM.2.1 81 = (3, 5) := by decide +kernel
theorem aM_82 : 82 ∈ yM.1 ∧ yM.2.1 82 = (3, 3) := by decide +kernel
theorem aM_83 : 83 ∈ yM.1 ∧ yM.2.1 83 = (3, 3) := by decide +kernel
theorem aM_84 : 84 ∈ yM.1 ∧ yM.2.1 84 = (3, 2) := by decide +kernel
theorem aM_85 : 85 ∈ yM.1 ∧ yM.2.1 85 = (3, 3) := by decide +kernel
theorem aM_86 : 86 ∈ yM.1 ∧ yM.2.1 86 = (3, 3) := by decide +kernel
theorem aM_87 : 87 ∈ yM.1 ∧ yM.2.1 87 = (3, 3) := by decide +kernel
theorem aM_88 : 88 ∈ yM.1 ∧ yM.2.1 88 = (3, 4) := by decide +kernel
theorem aM_89 : 89 ∈ yM.1 ∧ yM.2.1 89 = (3, 5) := by decide +kernel
theorem aM_90 : 90 ∈ yM.1 ∧ yM.2.1 90 = (3, 4) := by decide +kernel
theorem aM_91 : 91 ∈ yM.1 ∧ yM.2.1 91 = (3, 4) := by decide +kernel
theorem aM_92 : 92 ∈ yM.1 ∧ yM.2.1 92 = (3, 5) := by decide +kernel
theorem aM_93 : 93 ∈ yM.1 ∧ yM.2.1 93 = (3, 5) := by decide +kernel
theorem aM_94 : 94 ∈ yM.1 ∧ yM.2.1 94 = (3, 6) := by decide +kernel
theorem aM_95 : 95 ∈ yM.1 ∧ yM.2.1 95 = (3, 6) := by decide +kernel
theorem aM_96 : 96 ∈ yM.1 ∧ yM.2.1 96 = (3, 5) := by decide +kernel
theorem aM_97 : 97 ∈ yM.1 ∧ yM.2.1 97 = (3, 5) := by decide +kernel
theorem aM_98 : 98 ∈ yM.1 ∧ yM.2.1 98 = (3, 4) := by decide +kernel
theorem aM_99 : 99 ∈ yM.1 ∧ yM.2.1 99 = (3, 4) := by decide +kernel
theorem aM_100 : 100 ∈ yM.1 ∧ yM.2.1 100 = (4, 1700) := by decide +kernel
theorem aM_102 : 102 ∈ yM.1 ∧ yM.2.1 102 = (4, 1700) := by decide +kernel
theorem aM_106 : 106 ∈ yM.1 ∧ yM.2.1 106 = (5, 1700) := by decide +kernel
theorem aM_110 : 110 ∈ yM.1 ∧ yM.2.1 110 = (4, 48) := by decide +kernel
theorem cf12 : ho_F 12 RX12 TX12 tyX12 111 := ⟨rfl, ho_inOf [1467, 1469, 1471, 1473, 1475, 1477, 1479, 1481, 1483, 1485, 1487, 1489, 1491, 1493, 1495, 1497, 1499, 1501, 1503, 1505, 1507, 1509, 1511, 1513, 1515, 1517, 1519, 1521, 1523, 1525, 1527, 1529, 1531, 1533, 1535, 1537, 1539, 1541, 1543, 1545, 1547, 1549, 1551, 1553, 1555, 1557, 1559, 1561, 1563, 1565, 1567, 1569, 1571, 1573, 1575, 1577, 1579, 1581, 1583, 1585, 1587, 1589, 1591, 1593, 1595, 1597, 1599, 1601, 1603, 1605, 1607, 1609, 1611, 1613, 1615, 1617, 1619, 1621, 1623, 1625, 1627, 1629, 1631, 1633, 1635, 1637, 1639, 1641, 1643, 1645, 1647, 1649, 1651, 1653, 1655, 1657, 1659, 1661, 1663, 1665, 1667, 1669, 1671, 1673, 1675, 1677, 1679, 1681, 1683, 1685, 1687] (by decide +kernel), tyX12_ok, nmX12⟩
theorem fM_7 : ho_f yM RX12 12 TX12 111 7 0 2 (.array .int) true := ⟨rfl, by decide, gw_of (i := 1356) (by decide +kernel) rfl, rfl, rfl, by decide +kernel⟩
theorem fM_13 : ho_f yM RX12 12 TX12 111 13 8 0 .int false := ⟨rfl, by decide, gw_of (i := 1364) (by decide +kernel) rfl, rfl, rfl, by decide +kernel⟩
theorem fM_17 : ho_f yM RX12 12 TX12 111 17 9 2 (.array .int) true := ⟨rfl, by decide, gw_of (i := 1365) (by decide +kernel) rfl, rfl, rfl, by decide +kernel⟩
theorem fM_20 : ho_f yM RX12 12 TX12 111 20 10 2 (.array .char) true := ⟨rfl, by decide, gw_of (i := 1366) (by decide +kernel) rfl, rfl, rfl, by decide +kernel⟩
theorem fM_24 : ho_f yM RX12 12 TX12 111 24 11 2 (.array .char) true := ⟨rfl, by decide, gw_of (i := 1367) (by decide +kernel) rfl, rfl, rfl, by decide +kernel⟩
theorem fM_27 : ho_f yM RX12 12 TX12 111 27 12 2 (.array .char) true := ⟨rfl, by decide, gw_of (i := 1368) (by decide +kernel) rfl, rfl, rfl, by decide +kernel⟩
theorem fM_30 : ho_f yM RX12 12 TX12 111 30 13 2 (.array .char) true := ⟨rfl, by decide, gw_of (i := 1369) (by decide +kernel) rfl, rfl, rfl, by decide +kernel⟩
theorem fM_33 : ho_f yM RX12 12 TX12 111 33 14 2 (.array .char) true := ⟨rfl, by decide, gw_of (i := 1370) (by decide +kernel) rfl, rfl, rfl, by decide +kernel⟩
theorem fM_36 : ho_f yM RX12 12 TX12 111 36 15 2 (.array .char) true := ⟨rfl, by decide, gw_of (i := 1371) (by decide +kernel) rfl, rfl, rfl, by decide +kernel⟩
theorem fM_39 : ho_f yM RX12 12 TX12 111 39 16 2 (.array .char) true := ⟨rfl, by decide, gw_of (i := 1372) (by decide +kernel) rfl, rfl, rfl, by decide +kernel⟩
theorem fM_42 : ho_f yM RX12 12 TX12 111 42 17 2 (.array .char) true := ⟨rfl, by decide, gw_of (i := 1373) (by decide +kernel) rfl, rfl, rfl, by decide +kernel⟩
theorem fM_45 : ho_f yM RX12 12 TX12 111 45 18 2 (.array .char) true := ⟨rfl, by decide, gw_of (i := 1374) (by decide +kernel) rfl, rfl, rfl, by decide +kernel⟩
theorem fM_48 : ho_f yM RX12 12 TX12 111 48 19 2 (.array .char) true := ⟨rfl, by decide, gw_of (i := 1375) (by decide +kernel) rfl, rfl, rfl, by decide +kernel⟩
theorem fM_51 : ho_f yM RX12 12 TX12 111 51 20 2 (.array .char) true := ⟨rfl, by decide, gw_of (i := 1376) (by decide +kernel) rfl, rfl, rfl, by decide +kernel⟩
theorem fM_54 : ho_f yM RX12 12 TX12 111 54 21 2 (.array .char) true := ⟨rfl, by decide, gw_of (i := 1377) (by decide +kernel) rfl, rfl, rfl, by decide +kernel⟩
theorem fM_57 : ho_f yM RX12 12 TX12 111 57 22 2 (.array .char) true := ⟨rfl, by decide, gw_of (i := 1378) (by decide +kernel) rfl, rfl, rfl, by decide +kernel⟩
theorem fM_60 : ho_f yM RX12 12 TX12 111 60 23 2 (.array .char) true := ⟨rfl, by decide, gw_of (i := 1379) (by decide +kernel) rfl, rfl, rfl, by decide +kernel⟩
theorem fM_63 : ho_f yM RX12 12 TX12 111 63 24 2 (.array .char) true := ⟨rfl, by decide, gw_of (i := 1380) (by decide +kernel) rfl, rfl, rfl, by decide +kernel⟩
theorem fM_66 : ho_f yM RX12 12 TX12 111 66 25 2 (.array .char) true := ⟨rfl, by decide, gw_of (i := 1381) (by decide +kernel) rfl, rfl, rfl, by decide +kernel⟩
theorem fM_69 : ho_f yM RX12 12 TX12 111 69 26 2 (.array .char) true := ⟨rfl, by decide, gw_of (i := 1382) (by decide +kernel) rfl, rfl, rfl, by decide +kernel⟩
theorem fM_72 : ho_f yM RX12 12 TX12 111 72 27 2 (.array .char) true := ⟨rfl, by decide, gw_of (i := 1383) (by decide +kernel) rfl, rfl, rfl, by decide +kernel⟩
theorem fM_75 : ho_f yM RX12 12 TX12 111 75 28 2 (.array .char) true := ⟨rfl, by decide, gw_of (i := 1384) (by decide +kernel) rfl, rfl, rfl, by decide +kernel⟩
theorem fM_78 : ho_f yM RX12 12 TX12 111 78 29 2 (.array .char) true := ⟨rfl, by decide, gw_of (i := 1385) (by decide +kernel) rfl, rfl, rfl, by decide +kernel⟩
theorem fM_81 : ho_f yM RX12 12 TX12 111 81 30 2 (.array .char) true := ⟨rfl, by decide, gw_of (i := 1386) (by decide +kernel) rfl, rfl, rfl, by decide +kernel⟩
theorem fM_84 : ho_f yM RX12 12 TX12 111 84 31 2 (.array .char) true := ⟨rfl, by decide, gw_of (i := 1387) (by decide +kernel) rfl, rfl, rfl, by decide +kernel⟩
theorem fM_87 : ho_f yM RX12 12 TX12 111 87 32 2 (.array .char) true := ⟨rfl, by decide, gw_of (i := 1388) (by decide +kernel) rfl, rfl, rfl, by decide +kernel⟩
theorem fM_90 : ho_f yM RX12 12 TX12 111 90 33 2 (.array .char) true := ⟨rfl, by decide, gw_of (i := 1389) (by decide +kernel) rfl, rfl, rfl, by decide +kernel⟩
theorem fM_93 : ho_f yM RX12 12 TX12 111 93 34 2 (.array .char) true := ⟨rfl, by decide, gw_of (i := 1390) (by decide +kernel) rfl, rfl, rfl, by decide +kernel⟩
theorem fM_96 : ho_f yM RX12 12 TX12 111 96 35 2 (.array .char) true := ⟨rfl, by decide, gw_of (i := 1391) (by decide +kernel) rfl, rfl, rfl, by decide +kernel⟩
theorem fM_99 : ho_f yM RX12 12 TX12 111 99 36 2 (.array .char) true := ⟨rfl, by decide, gw_of (i := 1392) (by decide +kernel) rfl, rfl, rfl, by decide +kernel⟩
theorem fM_102 : ho_f yM RX12 12 TX12 111 102 37 2 (.array .char) true := ⟨rfl, by decide, gw_of (i := 1393) (by decide +kernel) rfl, rfl, rfl, by decide +kernel⟩
theorem fM_105 : ho_f yM RX12 12 TX12 111 105 38 2 (.array .char) true := ⟨rfl, by decide, gw_of (i := 1394) (by decide +kernel) rfl, rfl, rfl, by decide +kernel⟩
theorem fM_108 : ho_f yM RX12 12 TX12 111 108 40 2 (.array .int) true := ⟨rfl, by decide, gw_of (i := 1396) (by decide +kernel) rfl, rfl, rfl, by decide +kernel⟩
theorem fM_111 : ho_f yM RX12 12 TX12 111 111 41 2 (.array .long) true := ⟨rfl, by decide, gw_of (i := 1397) (by decide +kernel) rfl, rfl, rfl, by decide +kernel⟩
theorem fM_115 : ho_f yM RX12 12 TX12 111 115 42 2 (.array .int) true := ⟨rfl, by decide, gw_of (i := 1398) (by decide +kernel) rfl, rfl, rfl, by decide +kernel⟩
theorem fM_118 : ho_f yM RX12 12 TX12 111 118 43 2 (.array .int) true := ⟨rfl, by decide, gw_of (i := 1399) (by decide +kernel) rfl, rfl, rfl, by decide +kernel⟩
theorem fM_121 : ho_f yM RX12 12 TX12 111 121 44 2 (.array .int) true := ⟨rfl, by decide, gw_of (i := 1400) (by decide +kernel) rfl, rfl, rfl, by decide +kernel⟩
theorem fM_124 : ho_f yM RX12 12 TX12 111 124 45 2 (.array .int) true := ⟨rfl, by decide, gw_of (i := 1401) (by decide +kernel) rfl, rfl, rfl, by decide +kernel⟩
theorem fM_127 : ho_f yM RX12 12 TX12 111 127 46 2 (.array .int) true := ⟨rfl, by decide, gw_of (i := 1402) (by decide +kernel) rfl, rfl, rfl, by decide +kernel⟩
theorem fM_130 : ho_f yM RX12 12 TX12 111 130 47 2 (.array .int) true := ⟨rfl, by decide, gw_of (i := 1403) (by decide +kernel) rfl, rfl, rfl, by decide +kernel⟩
theorem fM_133 : ho_f yM RX12 12 TX12 111 133 48 2 (.array .int) true := ⟨rfl, by decide, gw_of (i := 1404) (by decide +kernel) rfl, rfl, rfl, by decide +kernel⟩
theorem fM_136 : ho_f yM RX12 12 TX12 111 136 49 2 (.array .int) true := ⟨rfl, by decide, gw_of (i := 1405) (by decide +kernel) rfl, rfl, rfl, by decide +kernel⟩
theorem fM_139 : ho_f yM RX12 12 TX12 111 139 54 2 (.array .int) true := ⟨rfl, by decide, gw_of (i := 1410) (by decide +kernel) rfl, rfl, rfl, by decide +kernel⟩
theorem fM_142 : ho_f yM RX12 12 TX12 111 142 55 2 (.array .int) true := ⟨rfl, by decide, gw_of (i := 1411) (by decide +kernel) rfl, rfl, rfl, by decide +kernel⟩
theorem fM_145 : ho_f yM RX12 12 TX12 111 145 58 2 (.array .int) true := ⟨rfl, by decide, gw_of (i := 1414) (by decide +kernel) rfl, rfl, rfl, by decide +kernel⟩
theorem fM_148 : ho_f yM RX12 12 TX12 111 148 59 2 (.array .int) true := ⟨rfl, by decide, gw_of (i := 1415) (by decide +kernel) rfl, rfl, rfl, by decide +kernel⟩
theorem fM_151 : ho_f yM RX12 12 TX12 111 151 60 2 (.array .int) true := ⟨rfl, by decide, gw_of (i := 1416) (by decide +kernel) rfl, rfl, rfl, by decide +kernel⟩
theorem fM_154 : ho_f yM RX12 12 TX12 111 154 61 2 (.array .int) true := ⟨rfl, by decide, gw_of (i := 1417) (by decide +kernel) rfl, rfl, rfl, by decide +kernel⟩
theorem fM_157 : ho_f yM RX12 12 TX12 111 157 65 2 (.array .int) true := ⟨rfl, by decide, gw_of (i := 1421) (by decide +kernel) rfl, rfl, rfl, by decide +kernel⟩
theorem fM_160 : ho_f yM RX12 12 TX12 111 160 67 2 (.array .int) true := ⟨rfl, by decide, gw_of (i := 1423) (by decide +kernel) rfl, rfl, rfl, by decide +kernel⟩
theorem fM_163 : ho_f yM RX12 12 TX12 111 163 68 2 (.array .int) true := ⟨rfl, by decide, gw_of (i := 1424) (by decide +kernel) rfl, rfl, rfl, by decide +kernel⟩
theorem fM_166 : ho_f yM RX12 12 TX12 111 166 69 2 (.array .boolean) true := ⟨rfl, by decide, gw_of (i := 1425) (by decide +kernel) rfl, rfl, rfl, by decide +kernel⟩
theorem fM_170 : ho_f yM RX12 12 TX12 111 170 71 2 (.array .int) true := ⟨rfl, by decide, gw_of (i := 1427) (by decide +kernel) rfl, rfl, rfl, by decide +kernel⟩
theorem fM_173 : ho_f yM RX12 12 TX12 111 173 74 1 .long false := ⟨rfl, by decide, gw_of (i := 1430) (by decide +kernel) rfl, rfl, rfl, by decide +kernel⟩
theorem fM_177 : ho_f yM RX12 12 TX12 111 177 75 2 (.array .char) true := ⟨rfl, by decide, gw_of (i := 1431) (by decide +kernel) rfl, rfl, rfl, by decide +kernel⟩
theorem fM_180 : ho_f yM RX12 12 TX12 111 180 76 2 (.array .char) true := ⟨rfl, by decide, gw_of (i := 1432) (by decide +kernel) rfl, rfl, rfl, by decide +kernel⟩
theorem fM_183 : ho_f yM RX12 12 TX12 111 183 77 2 (.array .char) true := ⟨rfl, by decide, gw_of (i := 1433) (by decide +kernel) rfl, rfl, rfl, by decide +kernel⟩
theorem fM_186 : ho_f yM RX12 12 TX12 111 186 78 2 (.array .char) true := ⟨rfl, by decide, gw_of (i := 1434) (by decide +kernel) rfl, rfl, rfl, by decide +kernel⟩
theorem fM_189 : ho_f yM RX12 12 TX12 111 189 79 2 (.array .char) true := ⟨rfl, by decide, gw_of (i := 1435) (by decide +kernel) rfl, rfl, rfl, by decide +kernel⟩
theorem fM_192 : ho_f yM RX12 12 TX12 111 192 80 2 (.array .char) true := ⟨rfl, by decide, gw_of (i := 1436) (by decide +kernel) rfl, rfl, rfl, by decide +kernel⟩
theorem fM_195 : ho_f yM RX12 12 TX12 111 195 81 2 (.array .char) true := ⟨rfl, by decide, gw_of (i := 1437) (by decide +kernel) rfl, rfl, rfl, by decide +kernel⟩
theorem fM_198 : ho_f yM RX12 12 TX12 111 198 82 2 (.array .char) true := ⟨rfl, by decide, gw_of (i := 1438) (by decide +kernel) rfl, rfl, rfl, by decide +kernel⟩
theorem fM_201 : ho_f yM RX12 12 TX12 111 201 83 2 (.array .char) true := ⟨rfl, by decide, gw_of (i := 1439) (by decide +kernel) rfl, rfl, rfl, by decide +kernel⟩
theorem fM_204 : ho_f yM RX12 12 TX12 111 204 84 2 (.array .char) true := ⟨rfl, by decide, gw_of (i := 1440) (by decide +kernel) rfl, rfl, rfl, by decide +kernel⟩
theorem fM_207 : ho_f yM RX12 12 TX12 111 207 85 2 (.array .char) true := ⟨rfl, by decide, gw_of (i := 1441) (by decide +kernel) rfl, rfl, rfl, by decide +kernel⟩
theorem fM_210 : ho_f yM RX12 12 TX12 111 210 86 2 (.array .char) true := ⟨rfl, by decide, gw_of (i := 1442) (by decide +kernel) rfl, rfl, rfl, by decide +kernel⟩
theorem fM_213 : ho_f yM RX12 12 TX12 111 213 87 2 (.array .char) true := ⟨rfl, by decide, gw_of (i := 1443) (by decide +kernel) rfl, rfl, rfl, by decide +kernel⟩
theorem fM_216 : ho_f yM RX12 12 TX12 111 216 88 2 (.array .char) true := ⟨rfl, by decide, gw_of (i := 1444) (by decide +kernel) rfl, rfl, rfl, by decide +kernel⟩
theorem fM_219 : ho_f yM RX12 12 TX12 111 219 89 2 (.array .char) true := ⟨rfl, by decide, gw_of (i := 1445) (by decide +kernel) rfl, rfl, rfl, by decide +kernel⟩
theorem fM_222 : ho_f yM RX12 12 TX12 111 222 90 2 (.array .char) true := ⟨rfl, by decide, gw_of (i := 1446) (by decide +kernel) rfl, rfl, rfl, by decide +kernel⟩
theorem fM_225 : ho_f yM RX12 12 TX12 111 225 91 2 (.array .char) true := ⟨rfl, by decide, gw_of (i := 1447) (by decide +kernel) rfl, rfl, rfl, by decide +kernel⟩
theorem fM_228 : ho_f yM RX12 12 TX12 111 228 92 2 (.array .char) true := ⟨rfl, by decide, gw_of (i := 1448) (by decide +kernel) rfl, rfl, rfl, by decide +kernel⟩
theorem fM_231 : ho_f yM RX12 12 TX12 111 231 93 2 (.array .char) true := ⟨rfl, by decide, gw_of (i := 1449) (by decide +kernel) rfl, rfl, rfl, by decide +kernel⟩
theorem fM_234 : ho_f yM RX12 12 TX12 111 234 94 2 (.array .char) true := ⟨rfl, by decide, gw_of (i := 1450) (by decide +kernel) rfl, rfl, rfl, by decide +kernel⟩
theorem fM_237 : ho_f yM RX12 12 TX12 111 237 95 2 (.array .char) true := ⟨rfl, by decide, gw_of (i := 1451) (by decide +kernel) rfl, rfl, rfl, by decide +kernel⟩
theorem fM_240 : ho_f yM RX12 12 TX12 111 240 96 2 (.array .char) true := ⟨rfl, by decide, gw_of (i := 1452) (by decide +kernel) rfl, rfl, rfl, by decide +kernel⟩
theorem fM_243 : ho_f yM RX12 12 TX12 111 243 97 2 (.array .char) true := ⟨rfl, by decide, gw_of (i := 1453) (by decide +kernel) rfl, rfl, rfl, by decide +kernel⟩
theorem fM_246 : ho_f yM RX12 12 TX12 111 246 98 2 (.array .char) true := ⟨rfl, by decide, gw_of (i := 1454) (by decide +kernel) rfl, rfl, rfl, by decide +kernel⟩
theorem fM_249 : ho_f yM RX12 12 TX12 111 249 99 2 (.array .int) true := ⟨rfl, by decide, gw_of (i := 1455) (by decide +kernel) rfl, rfl, rfl, by decide +kernel⟩
theorem fM_252 : ho_f yM RX12 12 TX12 111 252 101 2 (.array .int) true := ⟨rfl, by decide, gw_of (i := 1457) (by decide +kernel) rfl, rfl, rfl, by decide +kernel⟩
theorem fM_255 : ho_f yM RX12 12 TX12 111 255 105 2 (.array .long) true := ⟨rfl, by decide, gw_of (i := 1461) (by decide +kernel) rfl, rfl, rfl, by decide +kernel⟩
theorem fM_258 : ho_f yM RX12 12 TX12 111 258 109 2 (.array .int) true := ⟨rfl, by decide, gw_of (i := 1465) (by decide +kernel) rfl, rfl, rfl, by decide +kernel⟩
theorem fM_261 : ho_f yM RX12 12 TX12 111 261 1 0 .int false := ⟨rfl, by decide, gw_of (i := 1357) (by decide +kernel) rfl, rfl, rfl, by decide +kernel⟩
theorem fM_264 : ho_f yM RX12 12 TX12 111 264 5 0 .int false := ⟨rfl, by decide, gw_of (i := 1361) (by decide +kernel) rfl, rfl, rfl, by decide +kernel⟩
theorem fM_267 : ho_f yM RX12 12 TX12 111 267 6 0 .int false := ⟨rfl, by decide, gw_of (i := 1362) (by decide +kernel) rfl, rfl, rfl, by decide +kernel⟩
theorem fM_270 : ho_f yM RX12 12 TX12 111 270 2 0 .int false := ⟨rfl, by decide, gw_of (i := 1358) (by decide +kernel) rfl, rfl, rfl, by decide +kernel⟩
theorem fM_273 : ho_f yM RX12 12 TX12 111 273 3 0 .int false := ⟨rfl, by decide, gw_of (i := 1359) (by decide +kernel) rfl, rfl, rfl, by decide +kernel⟩
theorem fM_284 : ho_f yM RX12 12 TX12 111 284 4 0 .int false := ⟨rfl, by decide, gw_of (i := 1360) (by decide +kernel) rfl, rfl, rfl, by decide +kernel⟩
theorem fM_312 : ho_f yM RX12 12 TX12 111 312 39 0 .int false := ⟨rfl, by decide, gw_of (i := 1395) (by decide +kernel) rfl, rfl, rfl, by decide +kernel⟩
theorem fM_319 : ho_f yM RX12 12 TX12 111 319 53 0 .int false := ⟨rfl, by decide, gw_of (i := 1409) (by decide +kernel) rfl, rfl, rfl, by decide +kernel⟩
theorem fM_352 : ho_f yM RX12 12 TX12 111 352 100 0 .int false := ⟨rfl, by decide, gw_of (i := 1456) (by decide +kernel) rfl, rfl, rfl, by decide +kernel⟩
theorem fM_355 : ho_f yM RX12 12 TX12 111 355 102 0 .int false := ⟨rfl, by decide, gw_of (i := 1458) (by decide +kernel) rfl, rfl, rfl, by decide +kernel⟩
theorem fM_358 : ho_f yM RX12 12 TX12 111 358 103 0 .int false := ⟨rfl, by decide, gw_of (i := 1459) (by decide +kernel) rfl, rfl, rfl, by decide +kernel⟩
theorem fM_361 : ho_f yM RX12 12 TX12 111 361 104 0 .int false := ⟨rfl, by decide, gw_of (i := 1460) (by decide +kernel) rfl, rfl, rfl, by decide +kernel⟩
theorem fM_367 : ho_f yM RX12 12 TX12 111 367 50 0 .int false := ⟨rfl, by decide, gw_of (i := 1406) (by decide +kernel) rfl, rfl, rfl, by decide +kernel⟩
theorem fM_370 : ho_f yM RX12 12 TX12 111 370 51 0 .int false := ⟨rfl, by decide, gw_of (i := 1407) (by decide +kernel) rfl, rfl, rfl, by decide +kernel⟩
theorem fM_391 : ho_f yM RX12 12 TX12 111 391 7 0 .int false := ⟨rfl, by decide, gw_of (i := 1363) (by decide +kernel) rfl, rfl, rfl, by decide +kernel⟩
theorem fM_397 : ho_f yM RX12 12 TX12 111 397 52 0 .boolean false := ⟨rfl, by decide, gw_of (i := 1408) (by decide +kernel) rfl, rfl, rfl, by decide +kernel⟩
theorem fM_401 : ho_f yM RX12 12 TX12 111 401 72 0 .int false := ⟨rfl, by decide, gw_of (i := 1428) (by decide +kernel) rfl, rfl, rfl, by decide +kernel⟩
theorem fM_404 : ho_f yM RX12 12 TX12 111 404 66 0 .int false := ⟨rfl, by decide, gw_of (i := 1422) (by decide +kernel) rfl, rfl, rfl, by decide +kernel⟩
theorem fM_416 : ho_f yM RX12 12 TX12 111 416 106 0 .int false := ⟨rfl, by decide, gw_of (i := 1462) (by decide +kernel) rfl, rfl, rfl, by decide +kernel⟩
theorem fM_430 : ho_f yM RX12 12 TX12 111 430 56 0 .int false := ⟨rfl, by decide, gw_of (i := 1412) (by decide +kernel) rfl, rfl, rfl, by decide +kernel⟩
theorem fM_433 : ho_f yM RX12 12 TX12 111 433 57 0 .int false := ⟨rfl, by decide, gw_of (i := 1413) (by decide +kernel) rfl, rfl, rfl, by decide +kernel⟩
theorem fM_483 : ho_f yM RX12 12 TX12 111 483 62 0 .boolean false := ⟨rfl, by decide, gw_of (i := 1418) (by decide +kernel) rfl, rfl, rfl, by decide +kernel⟩
theorem fM_491 : ho_f yM RX12 12 TX12 111 491 64 0 .int false := ⟨rfl, by decide, gw_of (i := 1420) (by decide +kernel) rfl, rfl, rfl, by decide +kernel⟩
theorem fM_497 : ho_f yM RX12 12 TX12 111 497 63 0 .int false := ⟨rfl, by decide, gw_of (i := 1419) (by decide +kernel) rfl, rfl, rfl, by decide +kernel⟩
theorem fM_568 : ho_f yM RX12 12 TX12 111 568 70 0 .int false := ⟨rfl, by decide, gw_of (i := 1426) (by decide +kernel) rfl, rfl, rfl, by decide +kernel⟩
theorem fM_583 : ho_f yM RX12 12 TX12 111 583 73 0 .int false := ⟨rfl, by decide, gw_of (i := 1429) (by decide +kernel) rfl, rfl, rfl, by decide +kernel⟩
theorem fM_677 : ho_f yM RX12 12 TX12 111 677 107 1 .long false := ⟨rfl, by decide, gw_of (i := 1463) (by decide +kernel) rfl, rfl, rfl, by decide +kernel⟩
theorem fM_682 : ho_f yM RX12 12 TX12 111 682 108 0 .boolean false := ⟨rfl, by decide, gw_of (i := 1464) (by decide +kernel) rfl, rfl, rfl, by decide +kernel⟩
theorem fM_701 : ho_f yM RX12 12 TX12 111 701 110 0 .int false := ⟨rfl, by decide, gw_of (i := 1466) (by decide +kernel) rfl, rfl, rfl, by decide +kernel⟩
theorem kc_RX12_315 : Cond.constantLong RX12 315 (27) ∈ gw := gw_of (i := 1774) (by decide +kernel) rfl
theorem kc_RX12_317 : Cond.constantLong RX12 317 (97) ∈ gw := gw_of (i := 1775) (by decide +kernel) rfl
theorem kc_RX12_439 : Cond.constantLong RX12 439 (99) ∈ gw := gw_of (i := 1956) (by decide +kernel) rfl
theorem kc_RX12_486 : Cond.constantLong RX12 486 (10) ∈ gw := gw_of (i := 2058) (by decide +kernel) rfl
theorem kc_RX12_500 : Cond.constantLong RX12 500 (100) ∈ gw := gw_of (i := 2067) (by decide +kernel) rfl
theorem kc_RX12_502 : Cond.constantLong RX12 502 (99999) ∈ gw := gw_of (i := 2068) (by decide +kernel) rfl
theorem kc_RX12_504 : Cond.constant RX12 504 (99999) ∈ gw := gw_of (i := 2069) (by decide +kernel) rfl
theorem kc_RX12_526 : Cond.constantLong RX12 526 (2) ∈ gw := gw_of (i := 1894) (by decide +kernel) rfl
theorem kc_RX12_528 : Cond.constantLong RX12 528 (5) ∈ gw := gw_of (i := 1895) (by decide +kernel) rfl
theorem kc_RX12_554 : Cond.constantLong RX12 554 (3) ∈ gw := gw_of (i := 2033) (by decide +kernel) rfl
theorem kc_RX12_589 : Cond.constantLong RX12 589 (9) ∈ gw := gw_of (i := 2146) (by decide +kernel) rfl
theorem kc_RX12_594 : Cond.constantLong RX12 594 (9999) ∈ gw := gw_of (i := 2155) (by decide +kernel) rfl
theorem kc_RX12_596 : Cond.constantLong RX12 596 (1103515245) ∈ gw := gw_of (i := 2172) (by decide +kernel) rfl
theorem kc_RX12_598 : Cond.constantLong RX12 598 (12345) ∈ gw := gw_of (i := 2173) (by decide +kernel) rfl
theorem kc_RX12_600 : Cond.constantLong RX12 600 (2147483648) ∈ gw := gw_of (i := 2174) (by decide +kernel) rfl
theorem kc_RX12_602 : Cond.constantLong RX12 602 (64) ∈ gw := gw_of (i := 2175) (by decide +kernel) rfl
theorem kc_RX12_661 : Cond.constantLong RX12 661 (1000000) ∈ gw := gw_of (i := 1951) (by decide +kernel) rfl
theorem kc_RX12_663 : Cond.constantLong RX12 663 (-1000000) ∈ gw := gw_of (i := 1952) (by decide +kernel) rfl
theorem kc_RX12_680 : Cond.constantLong RX12 680 (-1) ∈ gw := gw_of (i := 2205) (by decide +kernel) rfl
theorem kc_RX12_685 : Cond.constantLong RX12 685 (-1000000000000000) ∈ gw := gw_of (i := 2180) (by decide +kernel) rfl
theorem kc_RX12_710 : Cond.constant RX12 710 (65536) ∈ gw := gw_of (i := 2230) (by decide +kernel) rfl
theorem yv_X12_look0 : ho_yV yX12_look0 cX12_look0 1 (some .int) 0 := ⟨⟨gw_of (i := 1724) (by decide +kernel) rfl, gw_of (i := 157) (by decide +kernel) rfl, by decide +kernel⟩, gw_of (i := 1723) (by decide +kernel) rfl, gw_of (i := 49) (by decide +kernel) rfl⟩
theorem ys_X12_isLetter : ho_yS yX12_isLetter cX12_isLetter 1 (some .boolean) 1 := ⟨⟨gw_of (i := 1727) (by decide +kernel) rfl, gw_of (i := 157) (by decide +kernel) rfl, by decide +kernel⟩, gw_of (i := 1726) (by decide +kernel) rfl⟩
theorem yv_X12_isHere : ho_yV yX12_isHere cX12_isHere 4 (some .boolean) 1 := ⟨⟨gw_of (i := 1720) (by decide +kernel) rfl, gw_of (i := 157) (by decide +kernel) rfl, by decide +kernel⟩, gw_of (i := 1719) (by decide +kernel) rfl, gw_of (i := 48) (by decide +kernel) rfl⟩
theorem yv_X12_takes : ho_yV yX12_takes cX12_takes 2 (some .boolean) 1 := ⟨⟨gw_of (i := 1716) (by decide +kernel) rfl, gw_of (i := 157) (by decide +kernel) rfl, by decide +kernel⟩, gw_of (i := 1715) (by decide +kernel) rfl, gw_of (i := 47) (by decide +kernel) rfl⟩
theorem yv_X12_fail : ho_yV yX12_fail cX12_fail 3 none 2 := ⟨⟨gw_of (i := 1731) (by decide +kernel) rfl, gw_of (i := 157) (by decide +kernel) rfl, by decide +kernel⟩, gw_of (i := 1730) (by decide +kernel) rfl, gw_of (i := 50) (by decide +kernel) rfl⟩
theorem yv_X12_takesSign : ho_yV yX12_takesSign cX12_takesSign 2 (some .boolean) 1 := ⟨⟨gw_of (i := 1749) (by decide +kernel) rfl, gw_of (i := 157) (by decide +kernel) rfl, by decide +kernel⟩, gw_of (i := 1748) (by decide +kernel) rfl, gw_of (i := 53) (by decide +kernel) rfl⟩
theorem ys_X12_isDigit : ho_yS yX12_isDigit cX12_isDigit 1 (some .boolean) 1 := ⟨⟨gw_of (i := 1738) (by decide +kernel) rfl, gw_of (i := 157) (by decide +kernel) rfl, by decide +kernel⟩, gw_of (i := 1737) (by decide +kernel) rfl⟩
theorem ys_X12_isIn : ho_yS yX12_isIn cX12_isIn 6 (some .boolean) 3 := ⟨⟨gw_of (i := 1741) (by decide +kernel) rfl, gw_of (i := 157) (by decide +kernel) rfl, by decide +kernel⟩, gw_of (i := 1740) (by decide +kernel) rfl⟩
theorem yv_X12_isOwnHere : ho_yV yX12_isOwnHere cX12_isOwnHere 2 (some .boolean) 0 := ⟨⟨gw_of (i := 1773) (by decide +kernel) rfl, gw_of (i := 157) (by decide +kernel) rfl, by decide +kernel⟩, gw_of (i := 1772) (by decide +kernel) rfl, gw_of (i := 59) (by decide +kernel) rfl⟩
theorem yv_X12_name : ho_yV yX12_name cX12_name 3 (some .long) 0 := ⟨⟨gw_of (i := 1769) (by decide +kernel) rfl, gw_of (i := 157) (by decide +kernel) rfl, by decide +kernel⟩, gw_of (i := 1768) (by decide +kernel) rfl, gw_of (i := 58) (by decide +kernel) rfl⟩
theorem yv_X12_nameOf : ho_yV yX12_nameOf cX12_nameOf 5 (some .int) 2 := ⟨⟨gw_of (i := 1779) (by decide +kernel) rfl, gw_of (i := 157) (by decide +kernel) rfl, by decide +kernel⟩, gw_of (i := 1778) (by decide +kernel) rfl, gw_of (i := 60) (by decide +kernel) rfl⟩
theorem yv_X12_asks : ho_yV yX12_asks cX12_asks 2 none 1 := ⟨⟨gw_of (i := 1712) (by decide +kernel) rfl, gw_of (i := 157) (by decide +kernel) rfl, by decide +kernel⟩, gw_of (i := 1711) (by decide +kernel) rfl, gw_of (i := 46) (by decide +kernel) rfl⟩
theorem yv_X12_number : ho_yV yX12_number cX12_number 5 (some .int) 2 := ⟨⟨gw_of (i := 1735) (by decide +kernel) rfl, gw_of (i := 157) (by decide +kernel) rfl, by decide +kernel⟩, gw_of (i := 1734) (by decide +kernel) rfl, gw_of (i := 51) (by decide +kernel) rfl⟩
theorem yv_X12_asksSign : ho_yV yX12_asksSign cX12_asksSign 2 none 1 := ⟨⟨gw_of (i := 1745) (by decide +kernel) rfl, gw_of (i := 157) (by decide +kernel) rfl, by decide +kernel⟩, gw_of (i := 1744) (by decide +kernel) rfl, gw_of (i := 52) (by decide +kernel) rfl⟩
theorem yv_X12_isFull : ho_yV yX12_isFull cX12_isFull 4 (some .boolean) 3 := ⟨⟨gw_of (i := 1761) (by decide +kernel) rfl, gw_of (i := 157) (by decide +kernel) rfl, by decide +kernel⟩, gw_of (i := 1760) (by decide +kernel) rfl, gw_of (i := 56) (by decide +kernel) rfl⟩
theorem yv_X12_newName : ho_yV yX12_newName cX12_newName 4 (some .long) 0 := ⟨⟨gw_of (i := 1765) (by decide +kernel) rfl, gw_of (i := 157) (by decide +kernel) rfl, by decide +kernel⟩, gw_of (i := 1764) (by decide +kernel) rfl, gw_of (i := 57) (by decide +kernel) rfl⟩
theorem yv_X12_adds : ho_yV yX12_adds cX12_adds 4 (some .int) 2 := ⟨⟨gw_of (i := 1783) (by decide +kernel) rfl, gw_of (i := 157) (by decide +kernel) rfl, by decide +kernel⟩, gw_of (i := 1782) (by decide +kernel) rfl, gw_of (i := 61) (by decide +kernel) rfl⟩
theorem yv_X12_qWordHere : ho_yV yX12_qWordHere cX12_qWordHere 1 (some .int) 0 := ⟨⟨gw_of (i := 1811) (by decide +kernel) rfl, gw_of (i := 157) (by decide +kernel) rfl, by decide +kernel⟩, gw_of (i := 1810) (by decide +kernel) rfl, gw_of (i := 68) (by decide +kernel) rfl⟩
theorem yv_X12_isAllowed : ho_yV yX12_isAllowed cX12_isAllowed 2 (some .boolean) 1 := ⟨⟨gw_of (i := 1815) (by decide +kernel) rfl, gw_of (i := 157) (by decide +kernel) rfl, by decide +kernel⟩, gw_of (i := 1814) (by decide +kernel) rfl, gw_of (i := 69) (by decide +kernel) rfl⟩
theorem yv_X12_qCode : ho_yV yX12_qCode cX12_qCode 2 none 1 := ⟨⟨gw_of (i := 1827) (by decide +kernel) rfl, gw_of (i := 157) (by decide +kernel) rfl, by decide +kernel⟩, gw_of (i := 1826) (by decide +kernel) rfl, gw_of (i := 72) (by decide +kernel) rfl⟩
theorem yv_X12_qDrops : ho_yV yX12_qDrops cX12_qDrops 1 none 0 := ⟨⟨gw_of (i := 1835) (by decide +kernel) rfl, gw_of (i := 157) (by decide +kernel) rfl, by decide +kernel⟩, gw_of (i := 1834) (by decide +kernel) rfl, gw_of (i := 74) (by decide +kernel) rfl⟩
theorem yv_X12_qWordOf : ho_yV yX12_qWordOf cX12_qWordOf 4 (some .int) 2 := ⟨⟨gw_of (i := 1807) (by decide +kernel) rfl, gw_of (i := 157) (by decide +kernel) rfl, by decide +kernel⟩, gw_of (i := 1806) (by decide +kernel) rfl, gw_of (i := 67) (by decide +kernel) rfl⟩
theorem yv_X12_qEndsPart : ho_yV yX12_qEndsPart cX12_qEndsPart 1 none 0 := ⟨⟨gw_of (i := 1831) (by decide +kernel) rfl, gw_of (i := 157) (by decide +kernel) rfl, by decide +kernel⟩, gw_of (i := 1830) (by decide +kernel) rfl, gw_of (i := 73) (by decide +kernel) rfl⟩
theorem yv_X12_qAsksWord : ho_yV yX12_qAsksWord cX12_qAsksWord 2 none 1 := ⟨⟨gw_of (i := 1823) (by decide +kernel) rfl, gw_of (i := 157) (by decide +kernel) rfl, by decide +kernel⟩, gw_of (i := 1822) (by decide +kernel) rfl, gw_of (i := 71) (by decide +kernel) rfl⟩
theorem yv_X12_qOpens : ho_yV yX12_qOpens cX12_qOpens 3 none 2 := ⟨⟨gw_of (i := 1819) (by decide +kernel) rfl, gw_of (i := 157) (by decide +kernel) rfl, by decide +kernel⟩, gw_of (i := 1818) (by decide +kernel) rfl, gw_of (i := 70) (by decide +kernel) rfl⟩
theorem ys_X12_qIsBracket : ho_yS yX12_qIsBracket cX12_qIsBracket 1 (some .boolean) 1 := ⟨⟨gw_of (i := 1846) (by decide +kernel) rfl, gw_of (i := 157) (by decide +kernel) rfl, by decide +kernel⟩, gw_of (i := 1845) (by decide +kernel) rfl⟩
theorem yv_X12_qIsOn : ho_yV yX12_qIsOn cX12_qIsOn 2 (some .boolean) 1 := ⟨⟨gw_of (i := 1854) (by decide +kernel) rfl, gw_of (i := 157) (by decide +kernel) rfl, by decide +kernel⟩, gw_of (i := 1853) (by decide +kernel) rfl, gw_of (i := 78) (by decide +kernel) rfl⟩
theorem yv_X12_qBracket : ho_yV yX12_qBracket cX12_qBracket 2 (some .int) 0 := ⟨⟨gw_of (i := 1843) (by decide +kernel) rfl, gw_of (i := 157) (by decide +kernel) rfl, by decide +kernel⟩, gw_of (i := 1842) (by decide +kernel) rfl, gw_of (i := 76) (by decide +kernel) rfl⟩
theorem yv_X12_qDropsToBracket : ho_yV yX12_qDropsToBracket cX12_qDropsToBracket 1 none 0 := ⟨⟨gw_of (i := 1850) (by decide +kernel) rfl, gw_of (i := 157) (by decide +kernel) rfl, by decide +kernel⟩, gw_of (i := 1849) (by decide +kernel) rfl, gw_of (i := 77) (by decide +kernel) rfl⟩
theorem yv_X12_qPartTold : ho_yV yX12_qPartTold cX12_qPartTold 6 none 0 := ⟨⟨gw_of (i := 1803) (by decide +kernel) rfl, gw_of (i := 157) (by decide +kernel) rfl, by decide +kernel⟩, gw_of (i := 1802) (by decide +kernel) rfl, gw_of (i := 66) (by decide +kernel) rfl⟩
theorem yv_X12_qGoesOn : ho_yV yX12_qGoesOn cX12_qGoesOn 2 (some .boolean) 0 := ⟨⟨gw_of (i := 1839) (by decide +kernel) rfl, gw_of (i := 157) (by decide +kernel) rfl, by decide +kernel⟩, gw_of (i := 1838) (by decide +kernel) rfl, gw_of (i := 75) (by decide +kernel) rfl⟩
theorem yv_X12_qSums : ho_yV yX12_qSums cX12_qSums 3 none 0 := ⟨⟨gw_of (i := 1799) (by decide +kernel) rfl, gw_of (i := 157) (by decide +kernel) rfl, by decide +kernel⟩, gw_of (i := 1798) (by decide +kernel) rfl, gw_of (i := 65) (by decide +kernel) rfl⟩
theorem yv_X12_codesTold : ho_yV yX12_codesTold cX12_codesTold 4 none 2 := ⟨⟨gw_of (i := 1795) (by decide +kernel) rfl, gw_of (i := 157) (by decide +kernel) rfl, by decide +kernel⟩, gw_of (i := 1794) (by decide +kernel) rfl, gw_of (i := 64) (by decide +kernel) rfl⟩
theorem yv_X12_watcherTold : ho_yV yX12_watcherTold cX12_watcherTold 7 none 1 := ⟨⟨gw_of (i := 1791) (by decide +kernel) rfl, gw_of (i := 157) (by decide +kernel) rfl, by decide +kernel⟩, gw_of (i := 1790) (by decide +kernel) rfl, gw_of (i := 63) (by decide +kernel) rfl⟩
theorem yv_X12_trickTold : ho_yV yX12_trickTold cX12_trickTold 10 none 1 := ⟨⟨gw_of (i := 1787) (by decide +kernel) rfl, gw_of (i := 157) (by decide +kernel) rfl, by decide +kernel⟩, gw_of (i := 1786) (by decide +kernel) rfl, gw_of (i := 62) (by decide +kernel) rfl⟩
theorem yv_X12_provinceTold : ho_yV yX12_provinceTold cX12_provinceTold 7 none 1 := ⟨⟨gw_of (i := 1757) (by decide +kernel) rfl, gw_of (i := 157) (by decide +kernel) rfl, by decide +kernel⟩, gw_of (i := 1756) (by decide +kernel) rfl, gw_of (i := 55) (by decide +kernel) rfl⟩
theorem yv_X12_chestTold : ho_yV yX12_chestTold cX12_chestTold 1 none 0 := ⟨⟨gw_of (i := 1708) (by decide +kernel) rfl, gw_of (i := 157) (by decide +kernel) rfl, by decide +kernel⟩, gw_of (i := 1707) (by decide +kernel) rfl, gw_of (i := 45) (by decide +kernel) rfl⟩
theorem yv_X12_stands : ho_yV yX12_stands cX12_stands 2 none 0 := ⟨⟨gw_of (i := 1858) (by decide +kernel) rfl, gw_of (i := 157) (by decide +kernel) rfl, by decide +kernel⟩, gw_of (i := 1857) (by decide +kernel) rfl, gw_of (i := 79) (by decide +kernel) rfl⟩
theorem yv_X12_statementTold : ho_yV yX12_statementTold cX12_statementTold 2 none 0 := ⟨⟨gw_of (i := 1753) (by decide +kernel) rfl, gw_of (i := 157) (by decide +kernel) rfl, by decide +kernel⟩, gw_of (i := 1752) (by decide +kernel) rfl, gw_of (i := 54) (by decide +kernel) rfl⟩
theorem yv_X12_provinceMany : ho_yV yX12_provinceMany cX12_provinceMany 1 (some .int) 0 := ⟨⟨gw_of (i := 1889) (by decide +kernel) rfl, gw_of (i := 157) (by decide +kernel) rfl, by decide +kernel⟩, gw_of (i := 1888) (by decide +kernel) rfl, gw_of (i := 84) (by decide +kernel) rfl⟩
theorem yv_X12_trickMany : ho_yV yX12_trickMany cX12_trickMany 1 (some .int) 0 := ⟨⟨gw_of (i := 1874) (by decide +kernel) rfl, gw_of (i := 157) (by decide +kernel) rfl, by decide +kernel⟩, gw_of (i := 1873) (by decide +kernel) rfl, gw_of (i := 81) (by decide +kernel) rfl⟩
theorem yv_X12_watcherMany : ho_yV yX12_watcherMany cX12_watcherMany 1 (some .int) 0 := ⟨⟨gw_of (i := 1923) (by decide +kernel) rfl, gw_of (i := 157) (by decide +kernel) rfl, by decide +kernel⟩, gw_of (i := 1922) (by decide +kernel) rfl, gw_of (i := 89) (by decide +kernel) rfl⟩
theorem yv_X12_timesOf : ho_yV yX12_timesOf cX12_timesOf 2 (some .int) 1 := ⟨⟨gw_of (i := 1915) (by decide +kernel) rfl, gw_of (i := 157) (by decide +kernel) rfl, by decide +kernel⟩, gw_of (i := 1914) (by decide +kernel) rfl, gw_of (i := 87) (by decide +kernel) rfl⟩
theorem yv_X12_knownOf : ho_yV yX12_knownOf cX12_knownOf 2 (some .int) 1 := ⟨⟨gw_of (i := 1878) (by decide +kernel) rfl, gw_of (i := 157) (by decide +kernel) rfl, by decide +kernel⟩, gw_of (i := 1877) (by decide +kernel) rfl, gw_of (i := 82) (by decide +kernel) rfl⟩
theorem ys_X12_qClip : ho_yS yX12_qClip cX12_qClip 2 (some .long) 1 := ⟨⟨gw_of (i := 1950) (by decide +kernel) rfl, gw_of (i := 157) (by decide +kernel) rfl, by decide +kernel⟩, gw_of (i := 1949) (by decide +kernel) rfl⟩
theorem yv_X12_qPuts : ho_yV yX12_qPuts cX12_qPuts 3 none 1 := ⟨⟨gw_of (i := 1939) (by decide +kernel) rfl, gw_of (i := 157) (by decide +kernel) rfl, by decide +kernel⟩, gw_of (i := 1938) (by decide +kernel) rfl, gw_of (i := 93) (by decide +kernel) rfl⟩
theorem ys_X12_qFloor : ho_yS yX12_qFloor cX12_qFloor 6 (some .long) 2 := ⟨⟨gw_of (i := 1955) (by decide +kernel) rfl, gw_of (i := 157) (by decide +kernel) rfl, by decide +kernel⟩, gw_of (i := 1954) (by decide +kernel) rfl⟩
theorem yv_X12_qJoins : ho_yV yX12_qJoins cX12_qJoins 6 none 1 := ⟨⟨gw_of (i := 1947) (by decide +kernel) rfl, gw_of (i := 157) (by decide +kernel) rfl, by decide +kernel⟩, gw_of (i := 1946) (by decide +kernel) rfl, gw_of (i := 95) (by decide +kernel) rfl⟩
theorem yv_X12_qPartOf : ho_yV yX12_qPartOf cX12_qPartOf 3 (some .long) 2 := ⟨⟨gw_of (i := 1943) (by decide +kernel) rfl, gw_of (i := 157) (by decide +kernel) rfl, by decide +kernel⟩, gw_of (i := 1942) (by decide +kernel) rfl, gw_of (i := 94) (by decide +kernel) rfl⟩
theorem yv_X12_codesTell : ho_yV yX12_codesTell cX12_codesTell 5 (some .long) 2 := ⟨⟨gw_of (i := 1935) (by decide +kernel) rfl, gw_of (i := 157) (by decide +kernel) rfl, by decide +kernel⟩, gw_of (i := 1934) (by decide +kernel) rfl, gw_of (i := 92) (by decide +kernel) rfl⟩
theorem yv_X12_seatOf : ho_yV yX12_seatOf cX12_seatOf 2 (some .int) 1 := ⟨⟨gw_of (i := 1927) (by decide +kernel) rfl, gw_of (i := 157) (by decide +kernel) rfl, by decide +kernel⟩, gw_of (i := 1926) (by decide +kernel) rfl, gw_of (i := 90) (by decide +kernel) rfl⟩
theorem yv_X12_sightBy : ho_yV yX12_sightBy cX12_sightBy 7 (some .int) 3 := ⟨⟨gw_of (i := 1931) (by decide +kernel) rfl, gw_of (i := 157) (by decide +kernel) rfl, by decide +kernel⟩, gw_of (i := 1930) (by decide +kernel) rfl, gw_of (i := 91) (by decide +kernel) rfl⟩
theorem yv_X12_allTricks : ho_yV yX12_allTricks cX12_allTricks 1 (some .int) 0 := ⟨⟨gw_of (i := 2000) (by decide +kernel) rfl, gw_of (i := 157) (by decide +kernel) rfl, by decide +kernel⟩, gw_of (i := 1999) (by decide +kernel) rfl, gw_of (i := 102) (by decide +kernel) rfl⟩
theorem yv_X12_throughSet : ho_yV yX12_throughSet cX12_throughSet 3 (some .int) 0 := ⟨⟨gw_of (i := 1870) (by decide +kernel) rfl, gw_of (i := 157) (by decide +kernel) rfl, by decide +kernel⟩, gw_of (i := 1869) (by decide +kernel) rfl, gw_of (i := 80) (by decide +kernel) rfl⟩
theorem yv_X12_yieldsCome : ho_yV yX12_yieldsCome cX12_yieldsCome 3 none 0 := ⟨⟨gw_of (i := 1988) (by decide +kernel) rfl, gw_of (i := 157) (by decide +kernel) rfl, by decide +kernel⟩, gw_of (i := 1987) (by decide +kernel) rfl, gw_of (i := 99) (by decide +kernel) rfl⟩
theorem yv_X12_sightOf : ho_yV yX12_sightOf cX12_sightOf 4 (some .int) 1 := ⟨⟨gw_of (i := 1919) (by decide +kernel) rfl, gw_of (i := 157) (by decide +kernel) rfl, by decide +kernel⟩, gw_of (i := 1918) (by decide +kernel) rfl, gw_of (i := 88) (by decide +kernel) rfl⟩
theorem yv_X12_appearsBy : ho_yV yX12_appearsBy cX12_appearsBy 6 (some .int) 1 := ⟨⟨gw_of (i := 2012) (by decide +kernel) rfl, gw_of (i := 157) (by decide +kernel) rfl, by decide +kernel⟩, gw_of (i := 2011) (by decide +kernel) rfl, gw_of (i := 105) (by decide +kernel) rfl⟩
theorem yv_X12_sightBySet : ho_yV yX12_sightBySet cX12_sightBySet 4 (some .int) 1 := ⟨⟨gw_of (i := 2016) (by decide +kernel) rfl, gw_of (i := 157) (by decide +kernel) rfl, by decide +kernel⟩, gw_of (i := 2015) (by decide +kernel) rfl, gw_of (i := 106) (by decide +kernel) rfl⟩
theorem ys_X12_bits : ho_yS yX12_bits cX12_bits 3 (some .int) 1 := ⟨⟨gw_of (i := 1881) (by decide +kernel) rfl, gw_of (i := 157) (by decide +kernel) rfl, by decide +kernel⟩, gw_of (i := 1880) (by decide +kernel) rfl⟩
theorem yv_X12_laysSights : ho_yV yX12_laysSights cX12_laysSights 2 none 0 := ⟨⟨gw_of (i := 1996) (by decide +kernel) rfl, gw_of (i := 157) (by decide +kernel) rfl, by decide +kernel⟩, gw_of (i := 1995) (by decide +kernel) rfl, gw_of (i := 101) (by decide +kernel) rfl⟩
theorem yv_X12_canShow : ho_yV yX12_canShow cX12_canShow 2 (some .boolean) 1 := ⟨⟨gw_of (i := 2004) (by decide +kernel) rfl, gw_of (i := 157) (by decide +kernel) rfl, by decide +kernel⟩, gw_of (i := 2003) (by decide +kernel) rfl, gw_of (i := 103) (by decide +kernel) rfl⟩
theorem yv_X12_isBetter : ho_yV yX12_isBetter cX12_isBetter 7 (some .boolean) 2 := ⟨⟨gw_of (i := 2008) (by decide +kernel) rfl, gw_of (i := 157) (by decide +kernel) rfl, by decide +kernel⟩, gw_of (i := 2007) (by decide +kernel) rfl, gw_of (i := 104) (by decide +kernel) rfl⟩
theorem yv_X12_isKept : ho_yV yX12_isKept cX12_isKept 3 none 1 := ⟨⟨gw_of (i := 2062) (by decide +kernel) rfl, gw_of (i := 157) (by decide +kernel) rfl, by decide +kernel⟩, gw_of (i := 2061) (by decide +kernel) rfl, gw_of (i := 115) (by decide +kernel) rfl⟩
theorem yv_X12_isSeenThrough : ho_yV yX12_isSeenThrough cX12_isSeenThrough 4 none 1 := ⟨⟨gw_of (i := 2057) (by decide +kernel) rfl, gw_of (i := 157) (by decide +kernel) rfl, by decide +kernel⟩, gw_of (i := 2056) (by decide +kernel) rfl, gw_of (i := 114) (by decide +kernel) rfl⟩
theorem yv_X12_showGoes : ho_yV yX12_showGoes cX12_showGoes 4 none 1 := ⟨⟨gw_of (i := 2053) (by decide +kernel) rfl, gw_of (i := 157) (by decide +kernel) rfl, by decide +kernel⟩, gw_of (i := 2052) (by decide +kernel) rfl, gw_of (i := 113) (by decide +kernel) rfl⟩
theorem yv_X12_debtGoes : ho_yV yX12_debtGoes cX12_debtGoes 4 none 0 := ⟨⟨gw_of (i := 2066) (by decide +kernel) rfl, gw_of (i := 157) (by decide +kernel) rfl, by decide +kernel⟩, gw_of (i := 2065) (by decide +kernel) rfl, gw_of (i := 116) (by decide +kernel) rfl⟩
theorem yv_X12_bestShow : ho_yV yX12_bestShow cX12_bestShow 3 (some .int) 0 := ⟨⟨gw_of (i := 1992) (by decide +kernel) rfl, gw_of (i := 157) (by decide +kernel) rfl, by decide +kernel⟩, gw_of (i := 1991) (by decide +kernel) rfl, gw_of (i := 100) (by decide +kernel) rfl⟩
theorem yv_X12_yearEnds : ho_yV yX12_yearEnds cX12_yearEnds 2 none 1 := ⟨⟨gw_of (i := 2049) (by decide +kernel) rfl, gw_of (i := 157) (by decide +kernel) rfl, by decide +kernel⟩, gw_of (i := 2048) (by decide +kernel) rfl, gw_of (i := 112) (by decide +kernel) rfl⟩
theorem yv_X12_yearGoes : ho_yV yX12_yearGoes cX12_yearGoes 1 none 0 := ⟨⟨gw_of (i := 2045) (by decide +kernel) rfl, gw_of (i := 157) (by decide +kernel) rfl, by decide +kernel⟩, gw_of (i := 2044) (by decide +kernel) rfl, gw_of (i := 111) (by decide +kernel) rfl⟩
theorem yv_X12_triesAnew : ho_yV yX12_triesAnew cX12_triesAnew 2 none 0 := ⟨⟨gw_of (i := 2077) (by decide +kernel) rfl, gw_of (i := 157) (by decide +kernel) rfl, by decide +kernel⟩, gw_of (i := 2076) (by decide +kernel) rfl, gw_of (i := 118) (by decide +kernel) rfl⟩
theorem yv_X12_storesAll : ho_yV yX12_storesAll cX12_storesAll 3 (some .int) 0 := ⟨⟨gw_of (i := 1885) (by decide +kernel) rfl, gw_of (i := 157) (by decide +kernel) rfl, by decide +kernel⟩, gw_of (i := 1884) (by decide +kernel) rfl, gw_of (i := 83) (by decide +kernel) rfl⟩
theorem yv_X12_isProvince : ho_yV yX12_isProvince cX12_isProvince 2 (some .boolean) 1 := ⟨⟨gw_of (i := 1903) (by decide +kernel) rfl, gw_of (i := 157) (by decide +kernel) rfl, by decide +kernel⟩, gw_of (i := 1902) (by decide +kernel) rfl, gw_of (i := 85) (by decide +kernel) rfl⟩
theorem yv_X12_isTrick : ho_yV yX12_isTrick cX12_isTrick 2 (some .boolean) 1 := ⟨⟨gw_of (i := 1911) (by decide +kernel) rfl, gw_of (i := 157) (by decide +kernel) rfl, by decide +kernel⟩, gw_of (i := 1910) (by decide +kernel) rfl, gw_of (i := 86) (by decide +kernel) rfl⟩
theorem yv_X12_isWatcher : ho_yV yX12_isWatcher cX12_isWatcher 2 (some .boolean) 1 := ⟨⟨gw_of (i := 1964) (by decide +kernel) rfl, gw_of (i := 157) (by decide +kernel) rfl, by decide +kernel⟩, gw_of (i := 1963) (by decide +kernel) rfl, gw_of (i := 96) (by decide +kernel) rfl⟩
theorem yv_X12_sightAll : ho_yV yX12_sightAll cX12_sightAll 5 (some .int) 2 := ⟨⟨gw_of (i := 1968) (by decide +kernel) rfl, gw_of (i := 157) (by decide +kernel) rfl, by decide +kernel⟩, gw_of (i := 1967) (by decide +kernel) rfl, gw_of (i := 97) (by decide +kernel) rfl⟩
theorem yv_X12_yieldsComeNow : ho_yV yX12_yieldsComeNow cX12_yieldsComeNow 2 none 0 := ⟨⟨gw_of (i := 1984) (by decide +kernel) rfl, gw_of (i := 157) (by decide +kernel) rfl, by decide +kernel⟩, gw_of (i := 1983) (by decide +kernel) rfl, gw_of (i := 98) (by decide +kernel) rfl⟩
theorem yv_X12_yieldsGoBack : ho_yV yX12_yieldsGoBack cX12_yieldsGoBack 2 none 0 := ⟨⟨gw_of (i := 2020) (by decide +kernel) rfl, gw_of (i := 157) (by decide +kernel) rfl, by decide +kernel⟩, gw_of (i := 2019) (by decide +kernel) rfl, gw_of (i := 107) (by decide +kernel) rfl⟩
theorem yv_X12_isAhead : ho_yV yX12_isAhead cX12_isAhead 4 (some .boolean) 3 := ⟨⟨gw_of (i := 2032) (by decide +kernel) rfl, gw_of (i := 157) (by decide +kernel) rfl, by decide +kernel⟩, gw_of (i := 2031) (by decide +kernel) rfl, gw_of (i := 108) (by decide +kernel) rfl⟩
theorem yv_X12_putsAside : ho_yV yX12_putsAside cX12_putsAside 2 none 0 := ⟨⟨gw_of (i := 2037) (by decide +kernel) rfl, gw_of (i := 157) (by decide +kernel) rfl, by decide +kernel⟩, gw_of (i := 2036) (by decide +kernel) rfl, gw_of (i := 109) (by decide +kernel) rfl⟩
theorem yv_X12_yearsGo : ho_yV yX12_yearsGo cX12_yearsGo 3 none 1 := ⟨⟨gw_of (i := 2041) (by decide +kernel) rfl, gw_of (i := 157) (by decide +kernel) rfl, by decide +kernel⟩, gw_of (i := 2040) (by decide +kernel) rfl, gw_of (i := 110) (by decide +kernel) rfl⟩
theorem yv_X12_takesBack : ho_yV yX12_takesBack cX12_takesBack 1 none 0 := ⟨⟨gw_of (i := 2073) (by decide +kernel) rfl, gw_of (i := 157) (by decide +kernel) rfl, by decide +kernel⟩, gw_of (i := 2072) (by decide +kernel) rfl, gw_of (i := 117) (by decide +kernel) rfl⟩
theorem yv_X12_refuses : ho_yV yX12_refuses cX12_refuses 2 (some .int) 1 := ⟨⟨gw_of (i := 2097) (by decide +kernel) rfl, gw_of (i := 157) (by decide +kernel) rfl, by decide +kernel⟩, gw_of (i := 2096) (by decide +kernel) rfl, gw_of (i := 119) (by decide +kernel) rfl⟩
theorem yv_X12_isAsCounted : ho_yV yX12_isAsCounted cX12_isAsCounted 2 (some .boolean) 0 := ⟨⟨gw_of (i := 2109) (by decide +kernel) rfl, gw_of (i := 157) (by decide +kernel) rfl, by decide +kernel⟩, gw_of (i := 2108) (by decide +kernel) rfl, gw_of (i := 121) (by decide +kernel) rfl⟩
theorem yv_X12_laysShows : ho_yV yX12_laysShows cX12_laysShows 3 none 0 := ⟨⟨gw_of (i := 2105) (by decide +kernel) rfl, gw_of (i := 157) (by decide +kernel) rfl, by decide +kernel⟩, gw_of (i := 2104) (by decide +kernel) rfl, gw_of (i := 120) (by decide +kernel) rfl⟩
theorem yv_X12_alike : ho_yV yX12_alike cX12_alike 5 (some .int) 2 := ⟨⟨gw_of (i := 2117) (by decide +kernel) rfl, gw_of (i := 157) (by decide +kernel) rfl, by decide +kernel⟩, gw_of (i := 2116) (by decide +kernel) rfl, gw_of (i := 122) (by decide +kernel) rfl⟩
theorem yv_X12_doWatch : ho_yV yX12_doWatch cX12_doWatch 6 (some .boolean) 2 := ⟨⟨gw_of (i := 2125) (by decide +kernel) rfl, gw_of (i := 157) (by decide +kernel) rfl, by decide +kernel⟩, gw_of (i := 2124) (by decide +kernel) rfl, gw_of (i := 123) (by decide +kernel) rfl⟩
theorem yv_X12_keeps : ho_yV yX12_keeps cX12_keeps 2 none 0 := ⟨⟨gw_of (i := 2141) (by decide +kernel) rfl, gw_of (i := 157) (by decide +kernel) rfl, by decide +kernel⟩, gw_of (i := 2140) (by decide +kernel) rfl, gw_of (i := 124) (by decide +kernel) rfl⟩
theorem yv_X12_isRefused : ho_yV yX12_isRefused cX12_isRefused 1 (some .boolean) 0 := ⟨⟨gw_of (i := 2150) (by decide +kernel) rfl, gw_of (i := 157) (by decide +kernel) rfl, by decide +kernel⟩, gw_of (i := 2149) (by decide +kernel) rfl, gw_of (i := 125) (by decide +kernel) rfl⟩
theorem yv_X12_drawOf : ho_yV yX12_drawOf cX12_drawOf 2 (some .int) 1 := ⟨⟨gw_of (i := 2171) (by decide +kernel) rfl, gw_of (i := 157) (by decide +kernel) rfl, by decide +kernel⟩, gw_of (i := 2170) (by decide +kernel) rfl, gw_of (i := 126) (by decide +kernel) rfl⟩
theorem yv_X12_qHasSquare : ho_yV yX12_qHasSquare cX12_qHasSquare 2 (some .boolean) 0 := ⟨⟨gw_of (i := 2204) (by decide +kernel) rfl, gw_of (i := 157) (by decide +kernel) rfl, by decide +kernel⟩, gw_of (i := 2203) (by decide +kernel) rfl, gw_of (i := 132) (by decide +kernel) rfl⟩
theorem yv_X12_qDropsNots : ho_yV yX12_qDropsNots cX12_qDropsNots 1 none 0 := ⟨⟨gw_of (i := 2196) (by decide +kernel) rfl, gw_of (i := 157) (by decide +kernel) rfl, by decide +kernel⟩, gw_of (i := 2195) (by decide +kernel) rfl, gw_of (i := 130) (by decide +kernel) rfl⟩
theorem yv_X12_qFact : ho_yV yX12_qFact cX12_qFact 2 none 0 := ⟨⟨gw_of (i := 2192) (by decide +kernel) rfl, gw_of (i := 157) (by decide +kernel) rfl, by decide +kernel⟩, gw_of (i := 2191) (by decide +kernel) rfl, gw_of (i := 129) (by decide +kernel) rfl⟩
theorem yv_X12_qGoesOnTest : ho_yV yX12_qGoesOnTest cX12_qGoesOnTest 1 (some .boolean) 0 := ⟨⟨gw_of (i := 2200) (by decide +kernel) rfl, gw_of (i := 157) (by decide +kernel) rfl, by decide +kernel⟩, gw_of (i := 2199) (by decide +kernel) rfl, gw_of (i := 131) (by decide +kernel) rfl⟩
theorem yv_X12_qOf : ho_yV yX12_qOf cX12_qOf 5 (some .long) 3 := ⟨⟨gw_of (i := 2213) (by decide +kernel) rfl, gw_of (i := 157) (by decide +kernel) rfl, by decide +kernel⟩, gw_of (i := 2212) (by decide +kernel) rfl, gw_of (i := 134) (by decide +kernel) rfl⟩
theorem yv_X12_qKind : ho_yV yX12_qKind cX12_qKind 2 (some .int) 0 := ⟨⟨gw_of (i := 2184) (by decide +kernel) rfl, gw_of (i := 157) (by decide +kernel) rfl, by decide +kernel⟩, gw_of (i := 2183) (by decide +kernel) rfl, gw_of (i := 127) (by decide +kernel) rfl⟩
theorem yv_X12_qTold : ho_yV yX12_qTold cX12_qTold 4 (some .long) 1 := ⟨⟨gw_of (i := 2209) (by decide +kernel) rfl, gw_of (i := 157) (by decide +kernel) rfl, by decide +kernel⟩, gw_of (i := 2208) (by decide +kernel) rfl, gw_of (i := 133) (by decide +kernel) rfl⟩
theorem yv_X12_qTakes : ho_yV yX12_qTakes cX12_qTakes 6 none 3 := ⟨⟨gw_of (i := 2217) (by decide +kernel) rfl, gw_of (i := 157) (by decide +kernel) rfl, by decide +kernel⟩, gw_of (i := 2216) (by decide +kernel) rfl, gw_of (i := 135) (by decide +kernel) rfl⟩
theorem yv_X12_qTest : ho_yV yX12_qTest cX12_qTest 3 none 0 := ⟨⟨gw_of (i := 2188) (by decide +kernel) rfl, gw_of (i := 157) (by decide +kernel) rfl, by decide +kernel⟩, gw_of (i := 2187) (by decide +kernel) rfl, gw_of (i := 128) (by decide +kernel) rfl⟩
theorem yv_X12_writes : ho_yV yX12_writes cX12_writes 2 none 1 := ⟨⟨gw_of (i := 2229) (by decide +kernel) rfl, gw_of (i := 157) (by decide +kernel) rfl, by decide +kernel⟩, gw_of (i := 2228) (by decide +kernel) rfl, gw_of (i := 137) (by decide +kernel) rfl⟩
theorem yv_X12_writesTwo : ho_yV yX12_writesTwo cX12_writesTwo 2 none 1 := ⟨⟨gw_of (i := 2225) (by decide +kernel) rfl, gw_of (i := 157) (by decide +kernel) rfl, by decide +kernel⟩, gw_of (i := 2224) (by decide +kernel) rfl, gw_of (i := 136) (by decide +kernel) rfl⟩
theorem ys_X12_checked : ho_yS yX12_checked cX12_checked 4 (some .int) 2 := ⟨⟨gw_of (i := 2233) (by decide +kernel) rfl, gw_of (i := 157) (by decide +kernel) rfl, by decide +kernel⟩, gw_of (i := 2232) (by decide +kernel) rfl⟩
theorem yv_X12_twoAt : ho_yV yX12_twoAt cX12_twoAt 2 (some .int) 1 := ⟨⟨gw_of (i := 2249) (by decide +kernel) rfl, gw_of (i := 157) (by decide +kernel) rfl, by decide +kernel⟩, gw_of (i := 2248) (by decide +kernel) rfl, gw_of (i := 139) (by decide +kernel) rfl⟩
theorem yv_X12_isImage : ho_yV yX12_isImage cX12_isImage 5 (some .boolean) 1 := ⟨⟨gw_of (i := 2245) (by decide +kernel) rfl, gw_of (i := 157) (by decide +kernel) rfl, by decide +kernel⟩, gw_of (i := 2244) (by decide +kernel) rfl, gw_of (i := 138) (by decide +kernel) rfl⟩
theorem lk_RX12_276 : Cond.methodLink RX12 276 yX12_look0 ∈ gw := gw_of (i := 1721) (by decide +kernel) rfl
theorem lk_RX12_280 : Cond.methodLink RX12 280 yX12_isLetter ∈ gw := gw_of (i := 1725) (by decide +kernel) rfl
theorem lk_RX12_287 : Cond.methodLink RX12 287 yX12_isHere ∈ gw := gw_of (i := 1717) (by decide +kernel) rfl
theorem lk_RX12_291 : Cond.methodLink RX12 291 yX12_takes ∈ gw := gw_of (i := 1713) (by decide +kernel) rfl
theorem lk_RX12_294 : Cond.methodLink RX12 294 yX12_fail ∈ gw := gw_of (i := 1728) (by decide +kernel) rfl
theorem lk_RX12_298 : Cond.methodLink RX12 298 yX12_takesSign ∈ gw := gw_of (i := 1746) (by decide +kernel) rfl
theorem lk_RX12_301 : Cond.methodLink RX12 301 yX12_isDigit ∈ gw := gw_of (i := 1736) (by decide +kernel) rfl
theorem lk_RX12_304 : Cond.methodLink RX12 304 yX12_isIn ∈ gw := gw_of (i := 1739) (by decide +kernel) rfl
theorem lk_RX12_308 : Cond.methodLink RX12 308 yX12_isOwnHere ∈ gw := gw_of (i := 1770) (by decide +kernel) rfl
theorem lk_RX12_322 : Cond.methodLink RX12 322 yX12_name ∈ gw := gw_of (i := 1766) (by decide +kernel) rfl
theorem lk_RX12_326 : Cond.methodLink RX12 326 yX12_nameOf ∈ gw := gw_of (i := 1776) (by decide +kernel) rfl
theorem lk_RX12_330 : Cond.methodLink RX12 330 yX12_asks ∈ gw := gw_of (i := 1709) (by decide +kernel) rfl
theorem lk_RX12_334 : Cond.methodLink RX12 334 yX12_number ∈ gw := gw_of (i := 1732) (by decide +kernel) rfl
theorem lk_RX12_338 : Cond.methodLink RX12 338 yX12_asksSign ∈ gw := gw_of (i := 1742) (by decide +kernel) rfl
theorem lk_RX12_342 : Cond.methodLink RX12 342 yX12_isFull ∈ gw := gw_of (i := 1758) (by decide +kernel) rfl
theorem lk_RX12_346 : Cond.methodLink RX12 346 yX12_newName ∈ gw := gw_of (i := 1762) (by decide +kernel) rfl
theorem lk_RX12_349 : Cond.methodLink RX12 349 yX12_adds ∈ gw := gw_of (i := 1780) (by decide +kernel) rfl
theorem lk_RX12_364 : Cond.methodLink RX12 364 yX12_qSums ∈ gw := gw_of (i := 1796) (by decide +kernel) rfl
theorem lk_RX12_373 : Cond.methodLink RX12 373 yX12_provinceTold ∈ gw := gw_of (i := 1754) (by decide +kernel) rfl
theorem lk_RX12_376 : Cond.methodLink RX12 376 yX12_trickTold ∈ gw := gw_of (i := 1784) (by decide +kernel) rfl
theorem lk_RX12_379 : Cond.methodLink RX12 379 yX12_watcherTold ∈ gw := gw_of (i := 1788) (by decide +kernel) rfl
theorem lk_RX12_382 : Cond.methodLink RX12 382 yX12_codesTold ∈ gw := gw_of (i := 1792) (by decide +kernel) rfl
theorem lk_RX12_385 : Cond.methodLink RX12 385 yX12_chestTold ∈ gw := gw_of (i := 1705) (by decide +kernel) rfl
theorem lk_RX12_388 : Cond.methodLink RX12 388 yX12_statementTold ∈ gw := gw_of (i := 1750) (by decide +kernel) rfl
theorem lk_RX12_394 : Cond.methodLink RX12 394 yX12_stands ∈ gw := gw_of (i := 1855) (by decide +kernel) rfl
theorem lk_RX12_407 : Cond.methodLink RX12 407 yX12_provinceMany ∈ gw := gw_of (i := 1886) (by decide +kernel) rfl
theorem lk_RX12_410 : Cond.methodLink RX12 410 yX12_trickMany ∈ gw := gw_of (i := 1871) (by decide +kernel) rfl
theorem lk_RX12_413 : Cond.methodLink RX12 413 yX12_watcherMany ∈ gw := gw_of (i := 1920) (by decide +kernel) rfl
theorem lk_RX12_419 : Cond.methodLink RX12 419 yX12_qPuts ∈ gw := gw_of (i := 1936) (by decide +kernel) rfl
theorem lk_RX12_423 : Cond.methodLink RX12 423 yX12_qPartOf ∈ gw := gw_of (i := 1940) (by decide +kernel) rfl
theorem lk_RX12_427 : Cond.methodLink RX12 427 yX12_qJoins ∈ gw := gw_of (i := 1944) (by decide +kernel) rfl
theorem lk_RX12_436 : Cond.methodLink RX12 436 yX12_codesTell ∈ gw := gw_of (i := 1932) (by decide +kernel) rfl
theorem lk_RX12_441 : Cond.methodLink RX12 441 yX12_seatOf ∈ gw := gw_of (i := 1924) (by decide +kernel) rfl
theorem lk_RX12_445 : Cond.methodLink RX12 445 yX12_sightBy ∈ gw := gw_of (i := 1928) (by decide +kernel) rfl
theorem lk_RX12_449 : Cond.methodLink RX12 449 yX12_knownOf ∈ gw := gw_of (i := 1875) (by decide +kernel) rfl
theorem lk_RX12_452 : Cond.methodLink RX12 452 yX12_allTricks ∈ gw := gw_of (i := 1997) (by decide +kernel) rfl
theorem lk_RX12_455 : Cond.methodLink RX12 455 yX12_throughSet ∈ gw := gw_of (i := 1867) (by decide +kernel) rfl
theorem lk_RX12_458 : Cond.methodLink RX12 458 yX12_yieldsCome ∈ gw := gw_of (i := 1985) (by decide +kernel) rfl
theorem lk_RX12_461 : Cond.methodLink RX12 461 yX12_sightOf ∈ gw := gw_of (i := 1916) (by decide +kernel) rfl
theorem lk_RX12_464 : Cond.methodLink RX12 464 yX12_appearsBy ∈ gw := gw_of (i := 2009) (by decide +kernel) rfl
theorem lk_RX12_467 : Cond.methodLink RX12 467 yX12_sightBySet ∈ gw := gw_of (i := 2013) (by decide +kernel) rfl
theorem lk_RX12_470 : Cond.methodLink RX12 470 yX12_bits ∈ gw := gw_of (i := 1879) (by decide +kernel) rfl
theorem lk_RX12_473 : Cond.methodLink RX12 473 yX12_laysSights ∈ gw := gw_of (i := 1993) (by decide +kernel) rfl
theorem lk_RX12_476 : Cond.methodLink RX12 476 yX12_canShow ∈ gw := gw_of (i := 2001) (by decide +kernel) rfl
theorem lk_RX12_479 : Cond.methodLink RX12 479 yX12_isBetter ∈ gw := gw_of (i := 2005) (by decide +kernel) rfl
theorem lk_RX12_488 : Cond.methodLink RX12 488 yX12_isKept ∈ gw := gw_of (i := 2059) (by decide +kernel) rfl
theorem lk_RX12_494 : Cond.methodLink RX12 494 yX12_isSeenThrough ∈ gw := gw_of (i := 2054) (by decide +kernel) rfl
theorem lk_RX12_505 : Cond.methodLink RX12 505 yX12_showGoes ∈ gw := gw_of (i := 2050) (by decide +kernel) rfl
theorem lk_RX12_508 : Cond.methodLink RX12 508 yX12_debtGoes ∈ gw := gw_of (i := 2063) (by decide +kernel) rfl
theorem lk_RX12_511 : Cond.methodLink RX12 511 yX12_bestShow ∈ gw := gw_of (i := 1989) (by decide +kernel) rfl
theorem lk_RX12_514 : Cond.methodLink RX12 514 yX12_yearEnds ∈ gw := gw_of (i := 2046) (by decide +kernel) rfl
theorem lk_RX12_517 : Cond.methodLink RX12 517 yX12_yearGoes ∈ gw := gw_of (i := 2042) (by decide +kernel) rfl
theorem lk_RX12_520 : Cond.methodLink RX12 520 yX12_triesAnew ∈ gw := gw_of (i := 2074) (by decide +kernel) rfl
theorem lk_RX12_523 : Cond.methodLink RX12 523 yX12_storesAll ∈ gw := gw_of (i := 1882) (by decide +kernel) rfl
theorem lk_RX12_530 : Cond.methodLink RX12 530 yX12_isProvince ∈ gw := gw_of (i := 1900) (by decide +kernel) rfl
theorem lk_RX12_533 : Cond.methodLink RX12 533 yX12_isTrick ∈ gw := gw_of (i := 1908) (by decide +kernel) rfl
theorem lk_RX12_536 : Cond.methodLink RX12 536 yX12_timesOf ∈ gw := gw_of (i := 1912) (by decide +kernel) rfl
theorem lk_RX12_539 : Cond.methodLink RX12 539 yX12_isWatcher ∈ gw := gw_of (i := 1961) (by decide +kernel) rfl
theorem lk_RX12_542 : Cond.methodLink RX12 542 yX12_sightAll ∈ gw := gw_of (i := 1965) (by decide +kernel) rfl
theorem lk_RX12_545 : Cond.methodLink RX12 545 yX12_yieldsComeNow ∈ gw := gw_of (i := 1981) (by decide +kernel) rfl
theorem lk_RX12_548 : Cond.methodLink RX12 548 yX12_yieldsGoBack ∈ gw := gw_of (i := 2017) (by decide +kernel) rfl
theorem lk_RX12_551 : Cond.methodLink RX12 551 yX12_isAhead ∈ gw := gw_of (i := 2029) (by decide +kernel) rfl
theorem lk_RX12_556 : Cond.methodLink RX12 556 yX12_putsAside ∈ gw := gw_of (i := 2034) (by decide +kernel) rfl
theorem lk_RX12_559 : Cond.methodLink RX12 559 yX12_yearsGo ∈ gw := gw_of (i := 2038) (by decide +kernel) rfl
theorem lk_RX12_562 : Cond.methodLink RX12 562 yX12_takesBack ∈ gw := gw_of (i := 2070) (by decide +kernel) rfl
theorem lk_RX12_565 : Cond.methodLink RX12 565 yX12_refuses ∈ gw := gw_of (i := 2094) (by decide +kernel) rfl
theorem lk_RX12_571 : Cond.methodLink RX12 571 yX12_isAsCounted ∈ gw := gw_of (i := 2106) (by decide +kernel) rfl
theorem lk_RX12_574 : Cond.methodLink RX12 574 yX12_laysShows ∈ gw := gw_of (i := 2102) (by decide +kernel) rfl
theorem lk_RX12_577 : Cond.methodLink RX12 577 yX12_alike ∈ gw := gw_of (i := 2114) (by decide +kernel) rfl
theorem lk_RX12_580 : Cond.methodLink RX12 580 yX12_doWatch ∈ gw := gw_of (i := 2122) (by decide +kernel) rfl
theorem lk_RX12_586 : Cond.methodLink RX12 586 yX12_keeps ∈ gw := gw_of (i := 2138) (by decide +kernel) rfl
theorem lk_RX12_591 : Cond.methodLink RX12 591 yX12_isRefused ∈ gw := gw_of (i := 2147) (by decide +kernel) rfl
theorem lk_RX12_604 : Cond.methodLink RX12 604 yX12_drawOf ∈ gw := gw_of (i := 2168) (by decide +kernel) rfl
theorem lk_RX12_607 : Cond.methodLink RX12 607 yX12_qCode ∈ gw := gw_of (i := 1824) (by decide +kernel) rfl
theorem lk_RX12_610 : Cond.methodLink RX12 610 yX12_qIsBracket ∈ gw := gw_of (i := 1844) (by decide +kernel) rfl
theorem lk_RX12_613 : Cond.methodLink RX12 613 yX12_qDrops ∈ gw := gw_of (i := 1832) (by decide +kernel) rfl
theorem lk_RX12_616 : Cond.methodLink RX12 616 yX12_qWordHere ∈ gw := gw_of (i := 1808) (by decide +kernel) rfl
theorem lk_RX12_619 : Cond.methodLink RX12 619 yX12_isAllowed ∈ gw := gw_of (i := 1812) (by decide +kernel) rfl
theorem lk_RX12_622 : Cond.methodLink RX12 622 yX12_qWordOf ∈ gw := gw_of (i := 1804) (by decide +kernel) rfl
theorem lk_RX12_625 : Cond.methodLink RX12 625 yX12_qOpens ∈ gw := gw_of (i := 1816) (by decide +kernel) rfl
theorem lk_RX12_628 : Cond.methodLink RX12 628 yX12_qAsksWord ∈ gw := gw_of (i := 1820) (by decide +kernel) rfl
theorem lk_RX12_631 : Cond.methodLink RX12 631 yX12_qEndsPart ∈ gw := gw_of (i := 1828) (by decide +kernel) rfl
theorem lk_RX12_634 : Cond.methodLink RX12 634 yX12_qBracket ∈ gw := gw_of (i := 1840) (by decide +kernel) rfl
theorem lk_RX12_637 : Cond.methodLink RX12 637 yX12_qDropsToBracket ∈ gw := gw_of (i := 1847) (by decide +kernel) rfl
theorem lk_RX12_640 : Cond.methodLink RX12 640 yX12_qIsOn ∈ gw := gw_of (i := 1851) (by decide +kernel) rfl
theorem lk_RX12_643 : Cond.methodLink RX12 643 yX12_qPartTold ∈ gw := gw_of (i := 1800) (by decide +kernel) rfl
theorem lk_RX12_646 : Cond.methodLink RX12 646 yX12_qGoesOn ∈ gw := gw_of (i := 1836) (by decide +kernel) rfl
theorem lk_RX12_649 : Cond.methodLink RX12 649 yX12_qFact ∈ gw := gw_of (i := 2189) (by decide +kernel) rfl
theorem lk_RX12_652 : Cond.methodLink RX12 652 yX12_qDropsNots ∈ gw := gw_of (i := 2193) (by decide +kernel) rfl
theorem lk_RX12_655 : Cond.methodLink RX12 655 yX12_qGoesOnTest ∈ gw := gw_of (i := 2197) (by decide +kernel) rfl
theorem lk_RX12_658 : Cond.methodLink RX12 658 yX12_qHasSquare ∈ gw := gw_of (i := 2201) (by decide +kernel) rfl
theorem lk_RX12_665 : Cond.methodLink RX12 665 yX12_qClip ∈ gw := gw_of (i := 1948) (by decide +kernel) rfl
theorem lk_RX12_669 : Cond.methodLink RX12 669 yX12_qFloor ∈ gw := gw_of (i := 1953) (by decide +kernel) rfl
theorem lk_RX12_673 : Cond.methodLink RX12 673 yX12_qOf ∈ gw := gw_of (i := 2210) (by decide +kernel) rfl
theorem lk_RX12_687 : Cond.methodLink RX12 687 yX12_qKind ∈ gw := gw_of (i := 2181) (by decide +kernel) rfl
theorem lk_RX12_690 : Cond.methodLink RX12 690 yX12_qTest ∈ gw := gw_of (i := 2185) (by decide +kernel) rfl
theorem lk_RX12_693 : Cond.methodLink RX12 693 yX12_qTold ∈ gw := gw_of (i := 2206) (by decide +kernel) rfl
theorem lk_RX12_697 : Cond.methodLink RX12 697 yX12_qTakes ∈ gw := gw_of (i := 2214) (by decide +kernel) rfl
theorem lk_RX12_704 : Cond.methodLink RX12 704 yX12_writes ∈ gw := gw_of (i := 2226) (by decide +kernel) rfl
theorem lk_RX12_707 : Cond.methodLink RX12 707 yX12_writesTwo ∈ gw := gw_of (i := 2222) (by decide +kernel) rfl
theorem lk_RX12_711 : Cond.methodLink RX12 711 yX12_checked ∈ gw := gw_of (i := 2231) (by decide +kernel) rfl
theorem lk_RX12_715 : Cond.methodLink RX12 715 yX12_twoAt ∈ gw := gw_of (i := 2246) (by decide +kernel) rfl
theorem lk_RX12_718 : Cond.methodLink RX12 718 yX12_isImage ∈ gw := gw_of (i := 2242) (by decide +kernel) rfl
end
section
theorem dX12_isIn_0 : decode cX12_isIn 0 = .ok (.lload_n 0, 1) := by decide +kernel
theorem dX12_isIn_1 : decode cX12_isIn 1 = .ok (.lload_n 2, 1) := by decide +kernel
theorem dX12_isIn_2 : decode cX12_isIn 2 = .ok (.lcmp, 1) := by decide +kernel
theorem dX12_isIn_3 : decode cX12_isIn 3 = .ok (.ifCond .lt 14, 3) := by decide +kernel
theorem dX12_isIn_6 : decode cX12_isIn 6 = .ok (.lload_n 0, 1) := by decide +kernel
theorem dX12_isIn_7 : decode cX12_isIn 7 = .ok (.lload 4, 2) := by decide +kernel
theorem dX12_isIn_9 : decode cX12_isIn 9 = .ok (.lcmp, 1) := by decide +kernel
theorem dX12_isIn_10 : decode cX12_isIn 10 = .ok (.ifCond .gt 7, 3) := by decide +kernel
theorem dX12_isIn_13 : decode cX12_isIn 13 = .ok (.iconst 1, 1) := by decide +kernel
theorem dX12_isIn_14 : decode cX12_isIn 14 = .ok (.goto 4, 3) := by decide +kernel
theorem dX12_isIn_17 : decode cX12_isIn 17 = .ok (.iconst 0, 1) := by decide +kernel
theorem dX12_isIn_18 : decode cX12_isIn 18 = .ok (.ireturn, 1) := by decide +kernel
def f_X12_isIn (x0 : Int64) (x2 : Int64) (x4 : Int64) (S : Hp) : Option (Int32 × Hp) :=
  if (lg_cmp x0 x2) < 0 then some ((0 : Int32), S) else if 0 < (lg_cmp x0 x4) then some ((0 : Int32), S) else some ((1 : Int32), S)
set_option maxHeartbeats 4000000 in
set_option maxRecDepth 100000 in
theorem c_X12_isIn (l : Launch) (E : Ev) (x0 : Int64) (x2 : Int64) (x4 : Int64) (S : Hp) (r : (Int32 × Hp)) (h : f_X12_isIn x0 x2 x4 S = some r) : ho_M l yM E yX12_isIn cX12_isIn 6 (some .boolean) 0 [.long x0, .long x2, .long x4] S (some (.int r.1), r.2) := by
  refine ho_in (by decide) (Nat.le_of_ble_eq_true rfl) ?_
  intro p e s m args below meth c C hR ls hl
  have C : ho_I p s m args meth c RX12 cX12_isIn 6 (some .boolean) := C
  have hl : lv_has ls 6 [(0, .long x0), (2, .long x2), (4, .long x4)] := hl
  unfold f_X12_isIn at h
  refine lv_lload_n C.1 C.2.1 dX12_isIn_0 rfl (lv_at hl 0 rfl) ?_
  refine lv_lload_n C.1 C.2.1 dX12_isIn_1 rfl (lv_at hl 1 rfl) ?_
  refine W.lcmp C.1 C.2.1 dX12_isIn_2 ?_
  refine lv_if_lt (tgt := 17) C.1 C.2.1 dX12_isIn_3 (by decide) (fun hc => ?_) (fun hc => ?_)
  · replace h := if_t h hc
    refine lv_iconst (v := (0 : Int32)) C.1 C.2.1 dX12_isIn_17 (by decide) ?_
    exact ho_zret C hR (Or.inl rfl) h dX12_isIn_18
  · replace h := if_f h hc
    refine lv_lload_n C.1 C.2.1 dX12_isIn_6 rfl (lv_at hl 0 rfl) ?_
    refine lv_lload C.1 C.2.1 dX12_isIn_7 (lv_at hl 2 rfl) ?_
    refine W.lcmp C.1 C.2.1 dX12_isIn_9 ?_
    refine lv_if_gt (tgt := 17) C.1 C.2.1 dX12_isIn_10 (by decide) (fun hc => ?_) (fun hc => ?_)
    · replace h := if_t h hc
      refine lv_iconst (v := (0 : Int32)) C.1 C.2.1 dX12_isIn_17 (by decide) ?_
      exact ho_zret C hR (Or.inl rfl) h dX12_isIn_18
    · replace h := if_f h hc
      refine lv_iconst (v := (1 : Int32)) C.1 C.2.1 dX12_isIn_13 (by decide) ?_
      refine lv_goto (tgt := 18) C.1 C.2.1 dX12_isIn_14 (by decide) ?_
      exact ho_zret C hR (Or.inr rfl) h dX12_isIn_18
theorem dX12_feed_0 : decode cX12_feed 0 = .ok (.aload_n 0, 1) := by decide +kernel
theorem dX12_feed_1 : decode cX12_feed 1 = .ok (.getfield 261, 3) := by decide +kernel
theorem dX12_feed_4 : decode cX12_feed 4 = .ok (.bipush 20, 2) := by decide +kernel
theorem dX12_feed_6 : decode cX12_feed 6 = .ok (.iadd, 1) := by decide +kernel
theorem dX12_feed_7 : decode cX12_feed 7 = .ok (.sipush 1600, 3) := by decide +kernel
theorem dX12_feed_10 : decode cX12_feed 10 = .ok (.if_icmp .le 15, 3) := by decide +kernel
theorem dX12_feed_13 : decode cX12_feed 13 = .ok (.aload_n 0, 1) := by decide +kernel
theorem dX12_feed_14 : decode cX12_feed 14 = .ok (.getfield 17, 3) := by decide +kernel
theorem dX12_feed_17 : decode cX12_feed 17 = .ok (.iconst 0, 1) := by decide +kernel
theorem dX12_feed_18 : decode cX12_feed 18 = .ok (.dup2, 1) := by decide +kernel
theorem dX12_feed_19 : decode cX12_feed 19 = .ok (.iaload, 1) := by decide +kernel
theorem dX12_feed_20 : decode cX12_feed 20 = .ok (.iconst 1, 1) := by decide +kernel
theorem dX12_feed_21 : decode cX12_feed 21 = .ok (.iadd, 1) := by decide +kernel
theorem dX12_feed_22 : decode cX12_feed 22 = .ok (.iastore, 1) := by decide +kernel
theorem dX12_feed_23 : decode cX12_feed 23 = .ok (.iconst (-1), 1) := by decide +kernel
theorem dX12_feed_24 : decode cX12_feed 24 = .ok (.ireturn, 1) := by decide +kernel
theorem dX12_feed_25 : decode cX12_feed 25 = .ok (.iconst 0, 1) := by decide +kernel
theorem dX12_feed_26 : decode cX12_feed 26 = .ok (.istore 6, 2) := by decide +kernel
theorem dX12_feed_28 : decode cX12_feed 28 = .ok (.iload 6, 2) := by decide +kernel
theorem dX12_feed_30 : decode cX12_feed 30 = .ok (.bipush 20, 2) := by decide +kernel
theorem dX12_feed_32 : decode cX12_feed 32 = .ok (.if_icmp .ge 92, 3) := by decide +kernel
theorem dX12_feed_35 : decode cX12_feed 35 = .ok (.iload 6, 2) := by decide +kernel
theorem dX12_feed_37 : decode cX12_feed 37 = .ok (.iconst 4, 1) := by decide +kernel
theorem dX12_feed_38 : decode cX12_feed 38 = .ok (.if_icmp .ge 7, 3) := by decide +kernel
theorem dX12_feed_41 : decode cX12_feed 41 = .ok (.iload_n 1, 1) := by decide +kernel
theorem dX12_feed_42 : decode cX12_feed 42 = .ok (.goto 39, 3) := by decide +kernel
theorem dX12_feed_45 : decode cX12_feed 45 = .ok (.iload 6, 2) := by decide +kernel
theorem dX12_feed_47 : decode cX12_feed 47 = .ok (.bipush 8, 2) := by decide +kernel
theorem dX12_feed_49 : decode cX12_feed 49 = .ok (.if_icmp .ge 7, 3) := by decide +kernel
theorem dX12_feed_52 : decode cX12_feed 52 = .ok (.iload_n 2, 1) := by decide +kernel
theorem dX12_feed_53 : decode cX12_feed 53 = .ok (.goto 28, 3) := by decide +kernel
theorem dX12_feed_56 : decode cX12_feed 56 = .ok (.iload 6, 2) := by decide +kernel
theorem dX12_feed_58 : decode cX12_feed 58 = .ok (.bipush 12, 2) := by decide +kernel
theorem dX12_feed_60 : decode cX12_feed 60 = .ok (.if_icmp .ge 7, 3) := by decide +kernel
theorem dX12_feed_63 : decode cX12_feed 63 = .ok (.iload_n 3, 1) := by decide +kernel
theorem dX12_feed_64 : decode cX12_feed 64 = .ok (.goto 17, 3) := by decide +kernel
theorem dX12_feed_67 : decode cX12_feed 67 = .ok (.iload 6, 2) := by decide +kernel
theorem dX12_feed_69 : decode cX12_feed 69 = .ok (.bipush 16, 2) := by decide +kernel
theorem dX12_feed_71 : decode cX12_feed 71 = .ok (.if_icmp .ge 8, 3) := by decide +kernel
theorem dX12_feed_74 : decode cX12_feed 74 = .ok (.iload 4, 2) := by decide +kernel
theorem dX12_feed_76 : decode cX12_feed 76 = .ok (.goto 5, 3) := by decide +kernel
theorem dX12_feed_79 : decode cX12_feed 79 = .ok (.iload 5, 2) := by decide +kernel
theorem dX12_feed_81 : decode cX12_feed 81 = .ok (.istore 7, 2) := by decide +kernel
theorem dX12_feed_83 : decode cX12_feed 83 = .ok (.aload_n 0, 1) := by decide +kernel
theorem dX12_feed_84 : decode cX12_feed 84 = .ok (.getfield 7, 3) := by decide +kernel
theorem dX12_feed_87 : decode cX12_feed 87 = .ok (.aload_n 0, 1) := by decide +kernel
theorem dX12_feed_88 : decode cX12_feed 88 = .ok (.getfield 261, 3) := by decide +kernel
theorem dX12_feed_91 : decode cX12_feed 91 = .ok (.iload 7, 2) := by decide +kernel
theorem dX12_feed_93 : decode cX12_feed 93 = .ok (.bipush 8, 2) := by decide +kernel
theorem dX12_feed_95 : decode cX12_feed 95 = .ok (.iconst 3, 1) := by decide +kernel
theorem dX12_feed_96 : decode cX12_feed 96 = .ok (.iload 6, 2) := by decide +kernel
theorem dX12_feed_98 : decode cX12_feed 98 = .ok (.iconst 4, 1) := by decide +kernel
theorem dX12_feed_99 : decode cX12_feed 99 = .ok (.irem, 1) := by decide +kernel
theorem dX12_feed_100 : decode cX12_feed 100 = .ok (.isub, 1) := by decide +kernel
theorem dX12_feed_101 : decode cX12_feed 101 = .ok (.imul, 1) := by decide +kernel
theorem dX12_feed_102 : decode cX12_feed 102 = .ok (.ishr, 1) := by decide +kernel
theorem dX12_feed_103 : decode cX12_feed 103 = .ok (.sipush 255, 3) := by decide +kernel
theorem dX12_feed_106 : decode cX12_feed 106 = .ok (.iand, 1) := by decide +kernel
theorem dX12_feed_107 : decode cX12_feed 107 = .ok (.iastore, 1) := by decide +kernel
theorem dX12_feed_108 : decode cX12_feed 108 = .ok (.aload_n 0, 1) := by decide +kernel
theorem dX12_feed_109 : decode cX12_feed 109 = .ok (.dup, 1) := by decide +kernel
theorem dX12_feed_110 : decode cX12_feed 110 = .ok (.getfield 261, 3) := by decide +kernel
theorem dX12_feed_113 : decode cX12_feed 113 = .ok (.iconst 1, 1) := by decide +kernel
theorem dX12_feed_114 : decode cX12_feed 114 = .ok (.iadd, 1) := by decide +kernel
theorem dX12_feed_115 : decode cX12_feed 115 = .ok (.putfield 261, 3) := by decide +kernel
theorem dX12_feed_118 : decode cX12_feed 118 = .ok (.iinc 6 1, 3) := by decide +kernel
theorem dX12_feed_121 : decode cX12_feed 121 = .ok (.goto (-93), 3) := by decide +kernel
theorem dX12_feed_124 : decode cX12_feed 124 = .ok (.aload_n 0, 1) := by decide +kernel
theorem dX12_feed_125 : decode cX12_feed 125 = .ok (.getfield 261, 3) := by decide +kernel
theorem dX12_feed_128 : decode cX12_feed 128 = .ok (.ireturn, 1) := by decide +kernel
def f_X12_feed_81 (K28 : Int32 → Int32 → Int32 → Int32 → Int32 → Int32 → Hp → Option (Int32 × Hp)) (x1 : Int32) (x2 : Int32) (x3 : Int32) (x4 : Int32) (x5 : Int32) (x6 : Int32) (z0 : Int32) (S : Hp) : Option (Int32 × Hp) :=
  stI S 1 1600 (S.1 0 1) ((z0 >>> (((8 : Int32) * ((3 : Int32) - (x6 - x6 / (4 : Int32) * (4 : Int32)))) &&& 31)) &&& (255 : Int32)) (fun S1 => le1 (ho_sI S1 0 1 ((S1.1 0 1) + (1 : Int32))) (fun S2 => le1 (x6 + (1 : Int32)) (fun v3 => K28 x1 x2 x3 x4 x5 v3 S2)))
set_option maxHeartbeats 4000000 in
set_option maxRecDepth 100000 in
theorem w_X12_feed_81 {p : Program} {l : Launch} {e : Env} {s : State} {m : MethodId} {args : Array Value} {below : List Frame} {meth : Method} {c : Code} {E : Ev} {S0 : Hp} {r : (Int32 × Hp)} (C : ho_I p s m args meth c RX12 cX12_feed 8 (some .int)) (K28 : Int32 → Int32 → Int32 → Int32 → Int32 → Int32 → Hp → Option (Int32 × Hp)) (hK28 : ∀ (y1 : Int32) (y2 : Int32) (y3 : Int32) (y4 : Int32) (y5 : Int32) (y6 : Int32) (S : Hp), K28 y1 y2 y3 y4 y5 y6 S = some r → ho_G p l e s m args below meth c yM E S0 0 8 (some (.int r.1), r.2) 28 [(0, .ref (E.2.1 0)), (1, .int y1), (2, .int y2), (3, .int y3), (4, .int y4), (5, .int y5), (6, .int y6)] [] S) :
    ∀ (x1 : Int32) (x2 : Int32) (x3 : Int32) (x4 : Int32) (x5 : Int32) (x6 : Int32) (z0 : Int32) (S : Hp), f_X12_feed_81 K28 x1 x2 x3 x4 x5 x6 z0 S = some r → ho_G p l e s m args below meth c yM E S0 0 8 (some (.int r.1), r.2) 81 [(0, .ref (E.2.1 0)), (1, .int x1), (2, .int x2), (3, .int x3), (4, .int x4), (5, .int x5), (6, .int x6)] [.int z0] S := by
  intro x1 x2 x3 x4 x5 x6 z0 S h H locs ls hR hl
  unfold f_X12_feed_81 at h
  refine lv_istore (lv' := [(7, .int z0), (0, .ref (E.2.1 0)), (1, .int x1), (2, .int x2), (3, .int x3), (4, .int x4), (5, .int x5), (6, .int x6)]) C.1 C.2.1 dX12_feed_81 hl (by decide) rfl (fun ls hl => ?_)
  refine lv_aload_n C.1 C.2.1 dX12_feed_83 rfl (lv_at hl 1 rfl) ?_
  refine ho_getR (a' := 1) C cf12 fM_7 hR aM_0 rfl dX12_feed_84 ?_
  refine lv_aload_n C.1 C.2.1 dX12_feed_87 rfl (lv_at hl 1 rfl) ?_
  refine ho_getI C cf12 fM_261 hR aM_0 dX12_feed_88 ?_
  refine lv_iload C.1 C.2.1 dX12_feed_91 (lv_at hl 0 rfl) ?_
  refine lv_bipush (v := (8 : Int32)) C.1 C.2.1 dX12_feed_93 (by decide) ?_
  refine lv_iconst (v := (3 : Int32)) C.1 C.2.1 dX12_feed_95 (by decide) ?_
  refine lv_iload C.1 C.2.1 dX12_feed_96 (lv_at hl 7 rfl) ?_
  refine lv_iconst (v := (4 : Int32)) C.1 C.2.1 dX12_feed_98 (by decide) ?_
  refine lv_irem C.1 C.2.1 dX12_feed_99 (by decide) ?_
  refine lv_isub C.1 C.2.1 dX12_feed_100 ?_
  refine lv_imul C.1 C.2.1 dX12_feed_101 ?_
  refine lv_ishr C.1 C.2.1 dX12_feed_102 ?_
  refine lv_sipush (v := (255 : Int32)) C.1 C.2.1 dX12_feed_103 (by decide) ?_
  refine lv_iand C.1 C.2.1 dX12_feed_106 ?_
  obtain ⟨S1, e1, hi1, h⟩ := stI_ok h
  refine hr_ist C hR aM_1 hi1 e1 dX12_feed_107 (fun H locs hR => ?_)
  refine lv_aload_n C.1 C.2.1 dX12_feed_108 rfl (lv_at hl 1 rfl) ?_
  refine lv_dup C.1 C.2.1 dX12_feed_109 rfl ?_
  refine ho_getI C cf12 fM_261 hR aM_0 dX12_feed_110 ?_
  refine lv_iconst (v := (1 : Int32)) C.1 C.2.1 dX12_feed_113 (by decide) ?_
  refine lv_iadd C.1 C.2.1 dX12_feed_114 ?_
  obtain ⟨S2, e2, h⟩ := le1_ok h
  refine hr_putI C cf12 fM_261 hR aM_0 e2 dX12_feed_115 (fun H locs hR => ?_)
  obtain ⟨v3, e3, h⟩ := le1_ok h
  refine lv_iinc (v := v3) (lv' := [(6, .int v3), (7, .int z0), (0, .ref (E.2.1 0)), (1, .int x1), (2, .int x2), (3, .int x3), (4, .int x4), (5, .int x5)]) C.1 C.2.1 dX12_feed_118 hl (k := 7) rfl (by rw [e3]; rfl) (by decide) rfl (fun ls hl => ?_)
  refine lv_goto (tgt := 28) C.1 C.2.1 dX12_feed_121 (by decide) ?_
  exact hK28 x1 x2 x3 x4 x5 v3 S2 h _ _ _ hR (lv_sub hl [2, 3, 4, 5, 6, 7, 0] rfl)
def f_X12_feed_28 : Nat → Int32 → Int32 → Int32 → Int32 → Int32 → Int32 → Hp → Option (Int32 × Hp)
  | 0, _, _, _, _, _, _, _ => none
  | k + 1, x1, x2, x3, x4, x5, x6, S => if (20 : Int32) ≤ x6 then some ((S.1 0 1), S) else if (4 : Int32) ≤ x6 then if (8 : Int32) ≤ x6 then if (12 : Int32) ≤ x6 then if (16 : Int32) ≤ x6 then f_X12_feed_81 (f_X12_feed_28 k) x1 x2 x3 x4 x5 x6 x5 S else f_X12_feed_81 (f_X12_feed_28 k) x1 x2 x3 x4 x5 x6 x4 S else f_X12_feed_81 (f_X12_feed_28 k) x1 x2 x3 x4 x5 x6 x3 S else f_X12_feed_81 (f_X12_feed_28 k) x1 x2 x3 x4 x5 x6 x2 S else f_X12_feed_81 (f_X12_feed_28 k) x1 x2 x3 x4 x5 x6 x1 S
set_option maxHeartbeats 4000000 in
set_option maxRecDepth 100000 in
theorem w_X12_feed_28 {p : Program} {l : Launch} {e : Env} {s : State} {m : MethodId} {args : Array Value} {below : List Frame} {meth : Method} {c : Code} {E : Ev} {S0 : Hp} {r : (Int32 × Hp)} (C : ho_I p s m args meth c RX12 cX12_feed 8 (some .int)) :
    ∀ (k : Nat) (x1 : Int32) (x2 : Int32) (x3 : Int32) (x4 : Int32) (x5 : Int32) (x6 : Int32) (S : Hp), f_X12_feed_28 k x1 x2 x3 x4 x5 x6 S = some r → ho_G p l e s m args below meth c yM E S0 0 8 (some (.int r.1), r.2) 28 [(0, .ref (E.2.1 0)), (1, .int x1), (2, .int x2), (3, .int x3), (4, .int x4), (5, .int x5), (6, .int x6)] [] S := by
  intro k
  induction k with
  | zero =>
    intro x1 x2 x3 x4 x5 x6 S h
    exact absurd (show (none : Option (Int32 × Hp)) = some r from h) (by simp)
  | succ k ih =>
    intro x1 x2 x3 x4 x5 x6 S h H locs ls hR hl
    rw [f_X12_feed_28] at h
    refine lv_iload C.1 C.2.1 dX12_feed_28 (lv_at hl 6 rfl) ?_
    refine lv_bipush (v := (20 : Int32)) C.1 C.2.1 dX12_feed_30 (by decide) ?_
    refine lv_icmp_ge (tgt := 124) C.1 C.2.1 dX12_feed_32 (by decide) (fun hc => ?_) (fun hc => ?_)
    · replace h := if_t h hc
      refine lv_aload_n C.1 C.2.1 dX12_feed_124 rfl (lv_at hl 0 rfl) ?_
      refine ho_getI C cf12 fM_261 hR aM_0 dX12_feed_125 ?_
      exact ho_iret C hR h dX12_feed_128
    · replace h := if_f h hc
      refine lv_iload C.1 C.2.1 dX12_feed_35 (lv_at hl 6 rfl) ?_
      refine lv_iconst (v := (4 : Int32)) C.1 C.2.1 dX12_feed_37 (by decide) ?_
      refine lv_icmp_ge (tgt := 45) C.1 C.2.1 dX12_feed_38 (by decide) (fun hc => ?_) (fun hc => ?_)
      · replace h := if_t h hc
        refine lv_iload C.1 C.2.1 dX12_feed_45 (lv_at hl 6 rfl) ?_
        refine lv_bipush (v := (8 : Int32)) C.1 C.2.1 dX12_feed_47 (by decide) ?_
        refine lv_icmp_ge (tgt := 56) C.1 C.2.1 dX12_feed_49 (by decide) (fun hc => ?_) (fun hc => ?_)
        · replace h := if_t h hc
          refine lv_iload C.1 C.2.1 dX12_feed_56 (lv_at hl 6 rfl) ?_
          refine lv_bipush (v := (12 : Int32)) C.1 C.2.1 dX12_feed_58 (by decide) ?_
          refine lv_icmp_ge (tgt := 67) C.1 C.2.1 dX12_feed_60 (by decide) (fun hc => ?_) (fun hc => ?_)
          · replace h := if_t h hc
            refine lv_iload C.1 C.2.1 dX12_feed_67 (lv_at hl 6 rfl) ?_
            refine lv_bipush (v := (16 : Int32)) C.1 C.2.1 dX12_feed_69 (by decide) ?_
            refine lv_icmp_ge (tgt := 79) C.1 C.2.1 dX12_feed_71 (by decide) (fun hc => ?_) (fun hc => ?_)
            · replace h := if_t h hc
              refine lv_iload C.1 C.2.1 dX12_feed_79 (lv_at hl 5 rfl) ?_
              exact w_X12_feed_81 C (f_X12_feed_28 k) ih x1 x2 x3 x4 x5 x6 x5 S h _ _ _ hR (lv_sub hl [0, 1, 2, 3, 4, 5, 6] rfl)
            · replace h := if_f h hc
              refine lv_iload C.1 C.2.1 dX12_feed_74 (lv_at hl 4 rfl) ?_
              refine lv_goto (tgt := 81) C.1 C.2.1 dX12_feed_76 (by decide) ?_
              exact w_X12_feed_81 C (f_X12_feed_28 k) ih x1 x2 x3 x4 x5 x6 x4 S h _ _ _ hR (lv_sub hl [0, 1, 2, 3, 4, 5, 6] rfl)
          · replace h := if_f h hc
            refine lv_iload_n C.1 C.2.1 dX12_feed_63 rfl (lv_at hl 3 rfl) ?_
            refine lv_goto (tgt := 81) C.1 C.2.1 dX12_feed_64 (by decide) ?_
            exact w_X12_feed_81 C (f_X12_feed_28 k) ih x1 x2 x3 x4 x5 x6 x3 S h _ _ _ hR (lv_sub hl [0, 1, 2, 3, 4, 5, 6] rfl)
        · replace h := if_f h hc
          refine lv_iload_n C.1 C.2.1 dX12_feed_52 rfl (lv_at hl 2 rfl) ?_
          refine lv_goto (tgt := 81) C.1 C.2.1 dX12_feed_53 (by decide) ?_
          exact w_X12_feed_81 C (f_X12_feed_28 k) ih x1 x2 x3 x4 x5 x6 x2 S h _ _ _ hR (lv_sub hl [0, 1, 2, 3, 4, 5, 6] rfl)
      · replace h := if_f h hc
        refine lv_iload_n C.1 C.2.1 dX12_feed_41 rfl (lv_at hl 1 rfl) ?_
        refine lv_goto (tgt := 81) C.1 C.2.1 dX12_feed_42 (by decide) ?_
        exact w_X12_feed_81 C (f_X12_feed_28 k) ih x1 x2 x3 x4 x5 x6 x1 S h _ _ _ hR (lv_sub hl [0, 1, 2, 3, 4, 5, 6] rfl)
def f_X12_feed (x1 : Int32) (x2 : Int32) (x3 : Int32) (x4 : Int32) (x5 : Int32) (S : Hp) : Option (Int32 × Hp) :=
  if ((S.1 0 1) + (20 : Int32)) ≤ (1600 : Int32) then f_X12_feed_28 5000 x1 x2 x3 x4 x5 (0 : Int32) S else ldI S 10 6 (0 : Int32) (fun v1 => stI S 10 6 (0 : Int32) (v1 + (1 : Int32)) (fun S2 => some ((-1 : Int32), S2)))
set_option maxHeartbeats 4000000 in
set_option maxRecDepth 100000 in
theorem c_X12_feed (l : Launch) (E : Ev) (x1 : Int32) (x2 : Int32) (x3 : Int32) (x4 : Int32) (x5 : Int32) (S : Hp) (r : (Int32 × Hp)) (h : f_X12_feed x1 x2 x3 x4 x5 S = some r) : ho_M l yM E yX12_feed cX12_feed 8 (some .int) 0 [.ref (E.2.1 0), .int x1, .int x2, .int x3, .int x4, .int x5] S (some (.int r.1), r.2) := by
  refine ho_in (by decide) (Nat.le_of_ble_eq_true rfl) ?_
  intro p e s m args below meth c C hR ls hl
  have C : ho_I p s m args meth c RX12 cX12_feed 8 (some .int) := C
  have hl : lv_has ls 8 [(0, .ref (E.2.1 0)), (1, .int x1), (2, .int x2), (3, .int x3), (4, .int x4), (5, .int x5)] := hl
  unfold f_X12_feed at h
  refine lv_aload_n C.1 C.2.1 dX12_feed_0 rfl (lv_at hl 0 rfl) ?_
  refine ho_getI C cf12 fM_261 hR aM_0 dX12_feed_1 ?_
  refine lv_bipush (v := (20 : Int32)) C.1 C.2.1 dX12_feed_4 (by decide) ?_
  refine lv_iadd C.1 C.2.1 dX12_feed_6 ?_
  refine lv_sipush (v := (1600 : Int32)) C.1 C.2.1 dX12_feed_7 (by decide) ?_
  refine lv_icmp_le (tgt := 25) C.1 C.2.1 dX12_feed_10 (by decide) (fun hc => ?_) (fun hc => ?_)
  · replace h := if_t h hc
    refine lv_iconst (v := (0 : Int32)) C.1 C.2.1 dX12_feed_25 (by decide) ?_
    refine lv_istore (lv' := [(6, .int (0 : Int32)), (0, .ref (E.2.1 0)), (1, .int x1), (2, .int x2), (3, .int x3), (4, .int x4), (5, .int x5)]) C.1 C.2.1 dX12_feed_26 hl (by decide) rfl (fun ls hl => ?_)
    exact w_X12_feed_28 C 5000 x1 x2 x3 x4 x5 (0 : Int32) S h _ _ _ hR (lv_sub hl [1, 2, 3, 4, 5, 6, 0] rfl)
  · replace h := if_f h hc
    refine lv_aload_n C.1 C.2.1 dX12_feed_13 rfl (lv_at hl 0 rfl) ?_
    refine ho_getR (a' := 10) C cf12 fM_17 hR aM_0 rfl dX12_feed_14 ?_
    refine lv_iconst (v := (0 : Int32)) C.1 C.2.1 dX12_feed_17 (by decide) ?_
    refine lv_dup2_11 C.1 C.2.1 dX12_feed_18 rfl rfl ?_
    obtain ⟨v1, e1, hi1, h⟩ := ldI_ok h
    refine hr_ild C hR aM_10 hi1 e1 dX12_feed_19 ?_
    refine lv_iconst (v := (1 : Int32)) C.1 C.2.1 dX12_feed_20 (by decide) ?_
    refine lv_iadd C.1 C.2.1 dX12_feed_21 ?_
    obtain ⟨S2, e2, hi2, h⟩ := stI_ok h
    refine hr_ist C hR aM_10 hi2 e2 dX12_feed_22 (fun H locs hR => ?_)
    refine lv_iconst (v := (-1 : Int32)) C.1 C.2.1 dX12_feed_23 (by decide) ?_
    exact ho_iret C hR h dX12_feed_24
theorem dX12_end_0 : decode cX12_end 0 = .ok (.iload_n 1, 1) := by decide +kernel
theorem dX12_end_1 : decode cX12_end 1 = .ok (.ifCond .lt 11, 3) := by decide +kernel
theorem dX12_end_4 : decode cX12_end 4 = .ok (.iload_n 1, 1) := by decide +kernel
theorem dX12_end_5 : decode cX12_end 5 = .ok (.aload_n 0, 1) := by decide +kernel
theorem dX12_end_6 : decode cX12_end 6 = .ok (.getfield 261, 3) := by decide +kernel
theorem dX12_end_9 : decode cX12_end 9 = .ok (.if_icmp .le 15, 3) := by decide +kernel
theorem dX12_end_12 : decode cX12_end 12 = .ok (.aload_n 0, 1) := by decide +kernel
theorem dX12_end_13 : decode cX12_end 13 = .ok (.getfield 17, 3) := by decide +kernel
theorem dX12_end_16 : decode cX12_end 16 = .ok (.iconst 0, 1) := by decide +kernel
theorem dX12_end_17 : decode cX12_end 17 = .ok (.dup2, 1) := by decide +kernel
theorem dX12_end_18 : decode cX12_end 18 = .ok (.iaload, 1) := by decide +kernel
theorem dX12_end_19 : decode cX12_end 19 = .ok (.iconst 1, 1) := by decide +kernel
theorem dX12_end_20 : decode cX12_end 20 = .ok (.iadd, 1) := by decide +kernel
theorem dX12_end_21 : decode cX12_end 21 = .ok (.iastore, 1) := by decide +kernel
theorem dX12_end_22 : decode cX12_end 22 = .ok (.iconst 0, 1) := by decide +kernel
theorem dX12_end_23 : decode cX12_end 23 = .ok (.ireturn, 1) := by decide +kernel
theorem dX12_end_24 : decode cX12_end 24 = .ok (.aload_n 0, 1) := by decide +kernel
theorem dX12_end_25 : decode cX12_end 25 = .ok (.iload_n 1, 1) := by decide +kernel
theorem dX12_end_26 : decode cX12_end 26 = .ok (.putfield 261, 3) := by decide +kernel
theorem dX12_end_29 : decode cX12_end 29 = .ok (.iconst 1, 1) := by decide +kernel
theorem dX12_end_30 : decode cX12_end 30 = .ok (.ireturn, 1) := by decide +kernel
def f_X12_end_12 (S : Hp) : Option (Int32 × Hp) :=
  ldI S 10 6 (0 : Int32) (fun v1 => stI S 10 6 (0 : Int32) (v1 + (1 : Int32)) (fun S2 => some ((0 : Int32), S2)))
set_option maxHeartbeats 4000000 in
set_option maxRecDepth 100000 in
theorem w_X12_end_12 {p : Program} {l : Launch} {e : Env} {s : State} {m : MethodId} {args : Array Value} {below : List Frame} {meth : Method} {c : Code} {E : Ev} {S0 : Hp} {r : (Int32 × Hp)} (C : ho_I p s m args meth c RX12 cX12_end 2 (some .boolean)) :
    ∀ (S : Hp), f_X12_end_12 S = some r → ho_G p l e s m args below meth c yM E S0 0 2 (some (.int r.1), r.2) 12 [(0, .ref (E.2.1 0))] [] S := by
  intro S h H locs ls hR hl
  unfold f_X12_end_12 at h
  refine lv_aload_n C.1 C.2.1 dX12_end_12 rfl (lv_at hl 0 rfl) ?_
  refine ho_getR (a' := 10) C cf12 fM_17 hR aM_0 rfl dX12_end_13 ?_
  refine lv_iconst (v := (0 : Int32)) C.1 C.2.1 dX12_end_16 (by decide) ?_
  refine lv_dup2_11 C.1 C.2.1 dX12_end_17 rfl rfl ?_
  obtain ⟨v1, e1, hi1, h⟩ := ldI_ok h
  refine hr_ild C hR aM_10 hi1 e1 dX12_end_18 ?_
  refine lv_iconst (v := (1 : Int32)) C.1 C.2.1 dX12_end_19 (by decide) ?_
  refine lv_iadd C.1 C.2.1 dX12_end_20 ?_
  obtain ⟨S2, e2, hi2, h⟩ := stI_ok h
  refine hr_ist C hR aM_10 hi2 e2 dX12_end_21 (fun H locs hR => ?_)
  refine lv_iconst (v := (0 : Int32)) C.1 C.2.1 dX12_end_22 (by decide) ?_
  exact ho_zret C hR (Or.inl rfl) h dX12_end_23
def f_X12_end (x1 : Int32) (S : Hp) : Option (Int32 × Hp) :=
  if x1 < 0 then f_X12_end_12 S else if x1 ≤ (S.1 0 1) then le1 (ho_sI S 0 1 x1) (fun S1 => some ((1 : Int32), S1)) else f_X12_end_12 S
set_option maxHeartbeats 4000000 in
set_option maxRecDepth 100000 in
theorem c_X12_end (l : Launch) (E : Ev) (x1 : Int32) (S : Hp) (r : (Int32 × Hp)) (h : f_X12_end x1 S = some r) : ho_M l yM E yX12_end cX12_end 2 (some .boolean) 0 [.ref (E.2.1 0), .int x1] S (some (.int r.1), r.2) := by
  refine ho_in (by decide) (Nat.le_of_ble_eq_true rfl) ?_
  intro p e s m args below meth c C hR ls hl
  have C : ho_I p s m args meth c RX12 cX12_end 2 (some .boolean) := C
  have hl : lv_has ls 2 [(0, .ref (E.2.1 0)), (1, .int x1)] := hl
  unfold f_X12_end at h
  refine lv_iload_n C.1 C.2.1 dX12_end_0 rfl (lv_at hl 1 rfl) ?_
  refine lv_if_lt (tgt := 12) C.1 C.2.1 dX12_end_1 (by decide) (fun hc => ?_) (fun hc => ?_)
  · replace h := if_t h hc
    exact w_X12_end_12 C S h _ _ _ hR (lv_sub hl [0] rfl)
  · replace h := if_f h hc
    refine lv_iload_n C.1 C.2.1 dX12_end_4 rfl (lv_at hl 1 rfl) ?_
    refine lv_aload_n C.1 C.2.1 dX12_end_5 rfl (lv_at hl 0 rfl) ?_
    refine ho_getI C cf12 fM_261 hR aM_0 dX12_end_6 ?_
    refine lv_icmp_le (tgt := 24) C.1 C.2.1 dX12_end_9 (by decide) (fun hc => ?_) (fun hc => ?_)
    · replace h := if_t h hc
      refine lv_aload_n C.1 C.2.1 dX12_end_24 rfl (lv_at hl 0 rfl) ?_
      refine lv_iload_n C.1 C.2.1 dX12_end_25 rfl (lv_at hl 1 rfl) ?_
      obtain ⟨S1, e1, h⟩ := le1_ok h
      refine hr_putI C cf12 fM_261 hR aM_0 e1 dX12_end_26 (fun H locs hR => ?_)
      refine lv_iconst (v := (1 : Int32)) C.1 C.2.1 dX12_end_29 (by decide) ?_
      exact ho_zret C hR (Or.inr rfl) h dX12_end_30
    · replace h := if_f h hc
      exact w_X12_end_12 C S h _ _ _ hR (lv_sub hl [0] rfl)
theorem dX12_fail_0 : decode cX12_fail 0 = .ok (.aload_n 0, 1) := by decide +kernel
theorem dX12_fail_1 : decode cX12_fail 1 = .ok (.getfield 264, 3) := by decide +kernel
theorem dX12_fail_4 : decode cX12_fail 4 = .ok (.ifCond .eq 4, 3) := by decide +kernel
theorem dX12_fail_7 : decode cX12_fail 7 = .ok (.return_, 1) := by decide +kernel
theorem dX12_fail_8 : decode cX12_fail 8 = .ok (.aload_n 0, 1) := by decide +kernel
theorem dX12_fail_9 : decode cX12_fail 9 = .ok (.iload_n 1, 1) := by decide +kernel
theorem dX12_fail_10 : decode cX12_fail 10 = .ok (.putfield 264, 3) := by decide +kernel
theorem dX12_fail_13 : decode cX12_fail 13 = .ok (.aload_n 0, 1) := by decide +kernel
theorem dX12_fail_14 : decode cX12_fail 14 = .ok (.iload_n 2, 1) := by decide +kernel
theorem dX12_fail_15 : decode cX12_fail 15 = .ok (.putfield 267, 3) := by decide +kernel
theorem dX12_fail_18 : decode cX12_fail 18 = .ok (.return_, 1) := by decide +kernel
def f_X12_fail (x1 : Int32) (x2 : Int32) (S : Hp) : Option Hp :=
  if (S.1 0 5) = 0 then le1 (ho_sI S 0 5 x1) (fun S1 => le1 (ho_sI S1 0 6 x2) (fun S2 => some S2)) else some S
set_option maxHeartbeats 4000000 in
set_option maxRecDepth 100000 in
theorem c_X12_fail (l : Launch) (E : Ev) (x1 : Int32) (x2 : Int32) (S : Hp) (r : Hp) (h : f_X12_fail x1 x2 S = some r) : ho_M l yM E yX12_fail cX12_fail 3 none 0 [.ref (E.2.1 0), .int x1, .int x2] S (none, r) := by
  refine ho_in (by decide) (Nat.le_of_ble_eq_true rfl) ?_
  intro p e s m args below meth c C hR ls hl
  have C : ho_I p s m args meth c RX12 cX12_fail 3 none := C
  have hl : lv_has ls 3 [(0, .ref (E.2.1 0)), (1, .int x1), (2, .int x2)] := hl
  unfold f_X12_fail at h
  refine lv_aload_n C.1 C.2.1 dX12_fail_0 rfl (lv_at hl 0 rfl) ?_
  refine ho_getI C cf12 fM_264 hR aM_0 dX12_fail_1 ?_
  refine lv_if_eq (tgt := 8) C.1 C.2.1 dX12_fail_4 (by decide) (fun hc => ?_) (fun hc => ?_)
  · replace h := if_t h hc
    refine lv_aload_n C.1 C.2.1 dX12_fail_8 rfl (lv_at hl 0 rfl) ?_
    refine lv_iload_n C.1 C.2.1 dX12_fail_9 rfl (lv_at hl 1 rfl) ?_
    obtain ⟨S1, e1, h⟩ := le1_ok h
    refine hr_putI C cf12 fM_264 hR aM_0 e1 dX12_fail_10 (fun H locs hR => ?_)
    refine lv_aload_n C.1 C.2.1 dX12_fail_13 rfl (lv_at hl 0 rfl) ?_
    refine lv_iload_n C.1 C.2.1 dX12_fail_14 rfl (lv_at hl 2 rfl) ?_
    obtain ⟨S2, e2, h⟩ := le1_ok h
    refine hr_putI C cf12 fM_267 hR aM_0 e2 dX12_fail_15 (fun H locs hR => ?_)
    exact ho_vret C hR h dX12_fail_18
  · replace h := if_f h hc
    exact ho_vret C hR h dX12_fail_7
theorem dX12_isLetter_0 : decode cX12_isLetter 0 = .ok (.iload_n 0, 1) := by decide +kernel
theorem dX12_isLetter_1 : decode cX12_isLetter 1 = .ok (.bipush 97, 2) := by decide +kernel
theorem dX12_isLetter_3 : decode cX12_isLetter 3 = .ok (.if_icmp .lt 13, 3) := by decide +kernel
theorem dX12_isLetter_6 : decode cX12_isLetter 6 = .ok (.iload_n 0, 1) := by decide +kernel
theorem dX12_isLetter_7 : decode cX12_isLetter 7 = .ok (.bipush 122, 2) := by decide +kernel
theorem dX12_isLetter_9 : decode cX12_isLetter 9 = .ok (.if_icmp .gt 7, 3) := by decide +kernel
theorem dX12_isLetter_12 : decode cX12_isLetter 12 = .ok (.iconst 1, 1) := by decide +kernel
theorem dX12_isLetter_13 : decode cX12_isLetter 13 = .ok (.goto 4, 3) := by decide +kernel
theorem dX12_isLetter_16 : decode cX12_isLetter 16 = .ok (.iconst 0, 1) := by decide +kernel
theorem dX12_isLetter_17 : decode cX12_isLetter 17 = .ok (.ireturn, 1) := by decide +kernel
def f_X12_isLetter (x0 : Int32) (S : Hp) : Option (Int32 × Hp) :=
  if x0 < (97 : Int32) then some ((0 : Int32), S) else if (122 : Int32) < x0 then some ((0 : Int32), S) else some ((1 : Int32), S)
set_option maxHeartbeats 4000000 in
set_option maxRecDepth 100000 in
theorem c_X12_isLetter (l : Launch) (E : Ev) (x0 : Int32) (S : Hp) (r : (Int32 × Hp)) (h : f_X12_isLetter x0 S = some r) : ho_M l yM E yX12_isLetter cX12_isLetter 1 (some .boolean) 0 [.int x0] S (some (.int r.1), r.2) := by
  refine ho_in (by decide) (Nat.le_of_ble_eq_true rfl) ?_
  intro p e s m args below meth c C hR ls hl
  have C : ho_I p s m args meth c RX12 cX12_isLetter 1 (some .boolean) := C
  have hl : lv_has ls 1 [(0, .int x0)] := hl
  unfold f_X12_isLetter at h
  refine lv_iload_n C.1 C.2.1 dX12_isLetter_0 rfl (lv_at hl 0 rfl) ?_
  refine lv_bipush (v := (97 : Int32)) C.1 C.2.1 dX12_isLetter_1 (by decide) ?_
  refine lv_icmp_lt (tgt := 16) C.1 C.2.1 dX12_isLetter_3 (by decide) (fun hc => ?_) (fun hc => ?_)
  · replace h := if_t h hc
    refine lv_iconst (v := (0 : Int32)) C.1 C.2.1 dX12_isLetter_16 (by decide) ?_
    exact ho_zret C hR (Or.inl rfl) h dX12_isLetter_17
  · replace h := if_f h hc
    refine lv_iload_n C.1 C.2.1 dX12_isLetter_6 rfl (lv_at hl 0 rfl) ?_
    refine lv_bipush (v := (122 : Int32)) C.1 C.2.1 dX12_isLetter_7 (by decide) ?_
    refine lv_icmp_gt (tgt := 16) C.1 C.2.1 dX12_isLetter_9 (by decide) (fun hc => ?_) (fun hc => ?_)
    · replace h := if_t h hc
      refine lv_iconst (v := (0 : Int32)) C.1 C.2.1 dX12_isLetter_16 (by decide) ?_
      exact ho_zret C hR (Or.inl rfl) h dX12_isLetter_17
    · replace h := if_f h hc
      refine lv_iconst (v := (1 : Int32)) C.1 C.2.1 dX12_isLetter_12 (by decide) ?_
      refine lv_goto (tgt := 17) C.1 C.2.1 dX12_isLetter_13 (by decide) ?_
      exact ho_zret C hR (Or.inr rfl) h dX12_isLetter_17
theorem dX12_isDigit_0 : decode cX12_isDigit 0 = .ok (.iload_n 0, 1) := by decide +kernel
theorem dX12_isDigit_1 : decode cX12_isDigit 1 = .ok (.bipush 48, 2) := by decide +kernel
theorem dX12_isDigit_3 : decode cX12_isDigit 3 = .ok (.if_icmp .lt 13, 3) := by decide +kernel
theorem dX12_isDigit_6 : decode cX12_isDigit 6 = .ok (.iload_n 0, 1) := by decide +kernel
theorem dX12_isDigit_7 : decode cX12_isDigit 7 = .ok (.bipush 57, 2) := by decide +kernel
theorem dX12_isDigit_9 : decode cX12_isDigit 9 = .ok (.if_icmp .gt 7, 3) := by decide +kernel
theorem dX12_isDigit_12 : decode cX12_isDigit 12 = .ok (.iconst 1, 1) := by decide +kernel
theorem dX12_isDigit_13 : decode cX12_isDigit 13 = .ok (.goto 4, 3) := by decide +kernel
theorem dX12_isDigit_16 : decode cX12_isDigit 16 = .ok (.iconst 0, 1) := by decide +kernel
theorem dX12_isDigit_17 : decode cX12_isDigit 17 = .ok (.ireturn, 1) := by decide +kernel
def f_X12_isDigit (x0 : Int32) (S : Hp) : Option (Int32 × Hp) :=
  if x0 < (48 : Int32) then some ((0 : Int32), S) else if (57 : Int32) < x0 then some ((0 : Int32), S) else some ((1 : Int32), S)
set_option maxHeartbeats 4000000 in
set_option maxRecDepth 100000 in
theorem c_X12_isDigit (l : Launch) (E : Ev) (x0 : Int32) (S : Hp) (r : (Int32 × Hp)) (h : f_X12_isDigit x0 S = some r) : ho_M l yM E yX12_isDigit cX12_isDigit 1 (some .boolean) 0 [.int x0] S (some (.int r.1), r.2) := by
  refine ho_in (by decide) (Nat.le_of_ble_eq_true rfl) ?_
  intro p e s m args below meth c C hR ls hl
  have C : ho_I p s m args meth c RX12 cX12_isDigit 1 (some .boolean) := C
  have hl : lv_has ls 1 [(0, .int x0)] := hl
  unfold f_X12_isDigit at h
  refine lv_iload_n C.1 C.2.1 dX12_isDigit_0 rfl (lv_at hl 0 rfl) ?_
  refine lv_bipush (v := (48 : Int32)) C.1 C.2.1 dX12_isDigit_1 (by decide) ?_
  refine lv_icmp_lt (tgt := 16) C.1 C.2.1 dX12_isDigit_3 (by decide) (fun hc => ?_) (fun hc => ?_)
  · replace h := if_t h hc
    refine lv_iconst (v := (0 : Int32)) C.1 C.2.1 dX12_isDigit_16 (by decide) ?_
    exact ho_zret C hR (Or.inl rfl) h dX12_isDigit_17
  · replace h := if_f h hc
    refine lv_iload_n C.1 C.2.1 dX12_isDigit_6 rfl (lv_at hl 0 rfl) ?_
    refine lv_bipush (v := (57 : Int32)) C.1 C.2.1 dX12_isDigit_7 (by decide) ?_
    refine lv_icmp_gt (tgt := 16) C.1 C.2.1 dX12_isDigit_9 (by decide) (fun hc => ?_) (fun hc => ?_)
    · replace h := if_t h hc
      refine lv_iconst (v := (0 : Int32)) C.1 C.2.1 dX12_isDigit_16 (by decide) ?_
      exact ho_zret C hR (Or.inl rfl) h dX12_isDigit_17
    · replace h := if_f h hc
      refine lv_iconst (v := (1 : Int32)) C.1 C.2.1 dX12_isDigit_12 (by decide) ?_
      refine lv_goto (tgt := 17) C.1 C.2.1 dX12_isDigit_13 (by decide) ?_
      exact ho_zret C hR (Or.inr rfl) h dX12_isDigit_17
theorem dX12_look0_0 : decode cX12_look0 0 = .ok (.aload_n 0, 1) := by decide +kernel
theorem dX12_look0_1 : decode cX12_look0 1 = .ok (.getfield 270, 3) := by decide +kernel
theorem dX12_look0_4 : decode cX12_look0 4 = .ok (.aload_n 0, 1) := by decide +kernel
theorem dX12_look0_5 : decode cX12_look0 5 = .ok (.getfield 273, 3) := by decide +kernel
theorem dX12_look0_8 : decode cX12_look0 8 = .ok (.if_icmp .ge 44, 3) := by decide +kernel
theorem dX12_look0_11 : decode cX12_look0 11 = .ok (.aload_n 0, 1) := by decide +kernel
theorem dX12_look0_12 : decode cX12_look0 12 = .ok (.getfield 7, 3) := by decide +kernel
theorem dX12_look0_15 : decode cX12_look0 15 = .ok (.aload_n 0, 1) := by decide +kernel
theorem dX12_look0_16 : decode cX12_look0 16 = .ok (.getfield 270, 3) := by decide +kernel
theorem dX12_look0_19 : decode cX12_look0 19 = .ok (.iaload, 1) := by decide +kernel
theorem dX12_look0_20 : decode cX12_look0 20 = .ok (.bipush 10, 2) := by decide +kernel
theorem dX12_look0_22 : decode cX12_look0 22 = .ok (.if_icmp .eq 17, 3) := by decide +kernel
theorem dX12_look0_25 : decode cX12_look0 25 = .ok (.aload_n 0, 1) := by decide +kernel
theorem dX12_look0_26 : decode cX12_look0 26 = .ok (.getfield 7, 3) := by decide +kernel
theorem dX12_look0_29 : decode cX12_look0 29 = .ok (.aload_n 0, 1) := by decide +kernel
theorem dX12_look0_30 : decode cX12_look0 30 = .ok (.getfield 270, 3) := by decide +kernel
theorem dX12_look0_33 : decode cX12_look0 33 = .ok (.iaload, 1) := by decide +kernel
theorem dX12_look0_34 : decode cX12_look0 34 = .ok (.bipush 32, 2) := by decide +kernel
theorem dX12_look0_36 : decode cX12_look0 36 = .ok (.if_icmp .ne 16, 3) := by decide +kernel
theorem dX12_look0_39 : decode cX12_look0 39 = .ok (.aload_n 0, 1) := by decide +kernel
theorem dX12_look0_40 : decode cX12_look0 40 = .ok (.dup, 1) := by decide +kernel
theorem dX12_look0_41 : decode cX12_look0 41 = .ok (.getfield 270, 3) := by decide +kernel
theorem dX12_look0_44 : decode cX12_look0 44 = .ok (.iconst 1, 1) := by decide +kernel
theorem dX12_look0_45 : decode cX12_look0 45 = .ok (.iadd, 1) := by decide +kernel
theorem dX12_look0_46 : decode cX12_look0 46 = .ok (.putfield 270, 3) := by decide +kernel
theorem dX12_look0_49 : decode cX12_look0 49 = .ok (.goto (-49), 3) := by decide +kernel
theorem dX12_look0_52 : decode cX12_look0 52 = .ok (.aload_n 0, 1) := by decide +kernel
theorem dX12_look0_53 : decode cX12_look0 53 = .ok (.getfield 270, 3) := by decide +kernel
theorem dX12_look0_56 : decode cX12_look0 56 = .ok (.aload_n 0, 1) := by decide +kernel
theorem dX12_look0_57 : decode cX12_look0 57 = .ok (.getfield 273, 3) := by decide +kernel
theorem dX12_look0_60 : decode cX12_look0 60 = .ok (.if_icmp .ge 15, 3) := by decide +kernel
theorem dX12_look0_63 : decode cX12_look0 63 = .ok (.aload_n 0, 1) := by decide +kernel
theorem dX12_look0_64 : decode cX12_look0 64 = .ok (.getfield 7, 3) := by decide +kernel
theorem dX12_look0_67 : decode cX12_look0 67 = .ok (.aload_n 0, 1) := by decide +kernel
theorem dX12_look0_68 : decode cX12_look0 68 = .ok (.getfield 270, 3) := by decide +kernel
theorem dX12_look0_71 : decode cX12_look0 71 = .ok (.iaload, 1) := by decide +kernel
theorem dX12_look0_72 : decode cX12_look0 72 = .ok (.goto 4, 3) := by decide +kernel
theorem dX12_look0_75 : decode cX12_look0 75 = .ok (.iconst (-1), 1) := by decide +kernel
theorem dX12_look0_76 : decode cX12_look0 76 = .ok (.ireturn, 1) := by decide +kernel
def f_X12_look0_52 (S : Hp) : Option (Int32 × Hp) :=
  if (S.1 0 3) ≤ (S.1 0 2) then some ((-1 : Int32), S) else ldI S 1 1600 (S.1 0 2) (fun v1 => some (v1, S))
set_option maxHeartbeats 4000000 in
set_option maxRecDepth 100000 in
theorem w_X12_look0_52 {p : Program} {l : Launch} {e : Env} {s : State} {m : MethodId} {args : Array Value} {below : List Frame} {meth : Method} {c : Code} {E : Ev} {S0 : Hp} {r : (Int32 × Hp)} (C : ho_I p s m args meth c RX12 cX12_look0 1 (some .int)) :
    ∀ (S : Hp), f_X12_look0_52 S = some r → ho_G p l e s m args below meth c yM E S0 0 1 (some (.int r.1), r.2) 52 [(0, .ref (E.2.1 0))] [] S := by
  intro S h H locs ls hR hl
  unfold f_X12_look0_52 at h
  refine lv_aload_n C.1 C.2.1 dX12_look0_52 rfl (lv_at hl 0 rfl) ?_
  refine ho_getI C cf12 fM_270 hR aM_0 dX12_look0_53 ?_
  refine lv_aload_n C.1 C.2.1 dX12_look0_56 rfl (lv_at hl 0 rfl) ?_
  refine ho_getI C cf12 fM_273 hR aM_0 dX12_look0_57 ?_
  refine lv_icmp_ge (tgt := 75) C.1 C.2.1 dX12_look0_60 (by decide) (fun hc => ?_) (fun hc => ?_)
  · replace h := if_t h hc
    refine lv_iconst (v := (-1 : Int32)) C.1 C.2.1 dX12_look0_75 (by decide) ?_
    exact ho_iret C hR h dX12_look0_76
  · replace h := if_f h hc
    refine lv_aload_n C.1 C.2.1 dX12_look0_63 rfl (lv_at hl 0 rfl) ?_
    refine ho_getR (a' := 1) C cf12 fM_7 hR aM_0 rfl dX12_look0_64 ?_
    refine lv_aload_n C.1 C.2.1 dX12_look0_67 rfl (lv_at hl 0 rfl) ?_
    refine ho_getI C cf12 fM_270 hR aM_0 dX12_look0_68 ?_
    obtain ⟨v1, e1, hi1, h⟩ := ldI_ok h
    refine hr_ild C hR aM_1 hi1 e1 dX12_look0_71 ?_
    refine lv_goto (tgt := 76) C.1 C.2.1 dX12_look0_72 (by decide) ?_
    exact ho_iret C hR h dX12_look0_76
def f_X12_look0_39 (K0 : Hp → Option (Int32 × Hp)) (S : Hp) : Option (Int32 × Hp) :=
  le1 (ho_sI S 0 2 ((S.1 0 2) + (1 : Int32))) (fun S1 => K0 S1)
set_option maxHeartbeats 4000000 in
set_option maxRecDepth 100000 in
theorem w_X12_look0_39 {p : Program} {l : Launch} {e : Env} {s : State} {m : MethodId} {args : Array Value} {below : List Frame} {meth : Method} {c : Code} {E : Ev} {S0 : Hp} {r : (Int32 × Hp)} (C : ho_I p s m args meth c RX12 cX12_look0 1 (some .int)) (K0 : Hp → Option (Int32 × Hp)) (hK0 : ∀ (S : Hp), K0 S = some r → ho_G p l e s m args below meth c yM E S0 0 1 (some (.int r.1), r.2) 0 [(0, .ref (E.2.1 0))] [] S) :
    ∀ (S : Hp), f_X12_look0_39 K0 S = some r → ho_G p l e s m args below meth c yM E S0 0 1 (some (.int r.1), r.2) 39 [(0, .ref (E.2.1 0))] [] S := by
  intro S h H locs ls hR hl
  unfold f_X12_look0_39 at h
  refine lv_aload_n C.1 C.2.1 dX12_look0_39 rfl (lv_at hl 0 rfl) ?_
  refine lv_dup C.1 C.2.1 dX12_look0_40 rfl ?_
  refine ho_getI C cf12 fM_270 hR aM_0 dX12_look0_41 ?_
  refine lv_iconst (v := (1 : Int32)) C.1 C.2.1 dX12_look0_44 (by decide) ?_
  refine lv_iadd C.1 C.2.1 dX12_look0_45 ?_
  obtain ⟨S1, e1, h⟩ := le1_ok h
  refine hr_putI C cf12 fM_270 hR aM_0 e1 dX12_look0_46 (fun H locs hR => ?_)
  refine lv_goto (tgt := 0) C.1 C.2.1 dX12_look0_49 (by decide) ?_
  exact hK0 S1 h _ _ _ hR (lv_sub hl [0] rfl)
def f_X12_look0_0 : Nat → Hp → Option (Int32 × Hp)
  | 0, _ => none
  | k + 1, S => if (S.1 0 3) ≤ (S.1 0 2) then f_X12_look0_52 S else ldI S 1 1600 (S.1 0 2) (fun v1 => if v1 = (10 : Int32) then f_X12_look0_39 (f_X12_look0_0 k) S else ldI S 1 1600 (S.1 0 2) (fun v2 => if v2 = (32 : Int32) then f_X12_look0_39 (f_X12_look0_0 k) S else f_X12_look0_52 S))
set_option maxHeartbeats 4000000 in
set_option maxRecDepth 100000 in
theorem w_X12_look0_0 {p : Program} {l : Launch} {e : Env} {s : State} {m : MethodId} {args : Array Value} {below : List Frame} {meth : Method} {c : Code} {E : Ev} {S0 : Hp} {r : (Int32 × Hp)} (C : ho_I p s m args meth c RX12 cX12_look0 1 (some .int)) :
    ∀ (k : Nat) (S : Hp), f_X12_look0_0 k S = some r → ho_G p l e s m args below meth c yM E S0 0 1 (some (.int r.1), r.2) 0 [(0, .ref (E.2.1 0))] [] S := by
  intro k
  induction k with
  | zero =>
    intro S h
    exact absurd (show (none : Option (Int32 × Hp)) = some r from h) (by simp)
  | succ k ih =>
    intro S h H locs ls hR hl
    rw [f_X12_look0_0] at h
    refine lv_aload_n C.1 C.2.1 dX12_look0_0 rfl (lv_at hl 0 rfl) ?_
    refine ho_getI C cf12 fM_270 hR aM_0 dX12_look0_1 ?_
    refine lv_aload_n C.1 C.2.1 dX12_look0_4 rfl (lv_at hl 0 rfl) ?_
    refine ho_getI C cf12 fM_273 hR aM_0 dX12_look0_5 ?_
    refine lv_icmp_ge (tgt := 52) C.1 C.2.1 dX12_look0_8 (by decide) (fun hc => ?_) (fun hc => ?_)
    · replace h := if_t h hc
      exact w_X12_look0_52 C S h _ _ _ hR (lv_sub hl [0] rfl)
    · replace h := if_f h hc
      refine lv_aload_n C.1 C.2.1 dX12_look0_11 rfl (lv_at hl 0 rfl) ?_
      refine ho_getR (a' := 1) C cf12 fM_7 hR aM_0 rfl dX12_look0_12 ?_
      refine lv_aload_n C.1 C.2.1 dX12_look0_15 rfl (lv_at hl 0 rfl) ?_
      refine ho_getI C cf12 fM_270 hR aM_0 dX12_look0_16 ?_
      obtain ⟨v1, e1, hi1, h⟩ := ldI_ok h
      refine hr_ild C hR aM_1 hi1 e1 dX12_look0_19 ?_
      refine lv_bipush (v := (10 : Int32)) C.1 C.2.1 dX12_look0_20 (by decide) ?_
      refine lv_icmp_eq (tgt := 39) C.1 C.2.1 dX12_look0_22 (by decide) (fun hc => ?_) (fun hc => ?_)
      · replace h := if_t h hc
        exact w_X12_look0_39 C (f_X12_look0_0 k) ih S h _ _ _ hR (lv_sub hl [0] rfl)
      · replace h := if_f h hc
        refine lv_aload_n C.1 C.2.1 dX12_look0_25 rfl (lv_at hl 0 rfl) ?_
        refine ho_getR (a' := 1) C cf12 fM_7 hR aM_0 rfl dX12_look0_26 ?_
        refine lv_aload_n C.1 C.2.1 dX12_look0_29 rfl (lv_at hl 0 rfl) ?_
        refine ho_getI C cf12 fM_270 hR aM_0 dX12_look0_30 ?_
        obtain ⟨v2, e2, hi2, h⟩ := ldI_ok h
        refine hr_ild C hR aM_1 hi2 e2 dX12_look0_33 ?_
        refine lv_bipush (v := (32 : Int32)) C.1 C.2.1 dX12_look0_34 (by decide) ?_
        refine lv_icmp_ne (tgt := 52) C.1 C.2.1 dX12_look0_36 (by decide) (fun hc => ?_) (fun hc => ?_)
        · replace h := if_f h hc
          exact w_X12_look0_52 C S h _ _ _ hR (lv_sub hl [0] rfl)
        · replace h := if_t h hc
          exact w_X12_look0_39 C (f_X12_look0_0 k) ih S h _ _ _ hR (lv_sub hl [0] rfl)
def f_X12_look0 (S : Hp) : Option (Int32 × Hp) :=
  f_X12_look0_0 5000 S
set_option maxHeartbeats 4000000 in
set_option maxRecDepth 100000 in
theorem c_X12_look0 (l : Launch) (E : Ev) (S : Hp) (r : (Int32 × Hp)) (h : f_X12_look0 S = some r) : ho_M l yM E yX12_look0 cX12_look0 1 (some .int) 0 [.ref (E.2.1 0)] S (some (.int r.1), r.2) := by
  refine ho_in (by decide) (Nat.le_of_ble_eq_true rfl) ?_
  intro p e s m args below meth c C hR ls hl
  have C : ho_I p s m args meth c RX12 cX12_look0 1 (some .int) := C
  have hl : lv_has ls 1 [(0, .ref (E.2.1 0))] := hl
  unfold f_X12_look0 at h
  exact w_X12_look0_0 C 5000 S h _ _ _ hR (lv_sub hl [0] rfl)
theorem dX12_isHere_0 : decode cX12_isHere 0 = .ok (.aload_n 0, 1) := by decide +kernel
theorem dX12_isHere_1 : decode cX12_isHere 1 = .ok (.getfield 264, 3) := by decide +kernel
theorem dX12_isHere_4 : decode cX12_isHere 4 = .ok (.ifCond .ne 24, 3) := by decide +kernel
theorem dX12_isHere_7 : decode cX12_isHere 7 = .ok (.aload_n 0, 1) := by decide +kernel
theorem dX12_isHere_8 : decode cX12_isHere 8 = .ok (.invokevirtual 276, 3) := by decide +kernel
theorem dX12_isHere_11 : decode cX12_isHere 11 = .ok (.invokestatic 280, 3) := by decide +kernel
theorem dX12_isHere_14 : decode cX12_isHere 14 = .ok (.ifCond .eq 14, 3) := by decide +kernel
theorem dX12_isHere_17 : decode cX12_isHere 17 = .ok (.aload_n 0, 1) := by decide +kernel
theorem dX12_isHere_18 : decode cX12_isHere 18 = .ok (.getfield 270, 3) := by decide +kernel
theorem dX12_isHere_21 : decode cX12_isHere 21 = .ok (.aload_n 0, 1) := by decide +kernel
theorem dX12_isHere_22 : decode cX12_isHere 22 = .ok (.getfield 284, 3) := by decide +kernel
theorem dX12_isHere_25 : decode cX12_isHere 25 = .ok (.if_icmp .ne 5, 3) := by decide +kernel
theorem dX12_isHere_28 : decode cX12_isHere 28 = .ok (.iconst 0, 1) := by decide +kernel
theorem dX12_isHere_29 : decode cX12_isHere 29 = .ok (.ireturn, 1) := by decide +kernel
theorem dX12_isHere_30 : decode cX12_isHere 30 = .ok (.aload_n 0, 1) := by decide +kernel
theorem dX12_isHere_31 : decode cX12_isHere 31 = .ok (.getfield 270, 3) := by decide +kernel
theorem dX12_isHere_34 : decode cX12_isHere 34 = .ok (.istore_n 2, 1) := by decide +kernel
theorem dX12_isHere_35 : decode cX12_isHere 35 = .ok (.iload_n 2, 1) := by decide +kernel
theorem dX12_isHere_36 : decode cX12_isHere 36 = .ok (.aload_n 0, 1) := by decide +kernel
theorem dX12_isHere_37 : decode cX12_isHere 37 = .ok (.getfield 273, 3) := by decide +kernel
theorem dX12_isHere_40 : decode cX12_isHere 40 = .ok (.if_icmp .ge 21, 3) := by decide +kernel
theorem dX12_isHere_43 : decode cX12_isHere 43 = .ok (.aload_n 0, 1) := by decide +kernel
theorem dX12_isHere_44 : decode cX12_isHere 44 = .ok (.getfield 7, 3) := by decide +kernel
theorem dX12_isHere_47 : decode cX12_isHere 47 = .ok (.iload_n 2, 1) := by decide +kernel
theorem dX12_isHere_48 : decode cX12_isHere 48 = .ok (.iaload, 1) := by decide +kernel
theorem dX12_isHere_49 : decode cX12_isHere 49 = .ok (.invokestatic 280, 3) := by decide +kernel
theorem dX12_isHere_52 : decode cX12_isHere 52 = .ok (.ifCond .eq 9, 3) := by decide +kernel
theorem dX12_isHere_55 : decode cX12_isHere 55 = .ok (.iinc 2 1, 3) := by decide +kernel
theorem dX12_isHere_58 : decode cX12_isHere 58 = .ok (.goto (-23), 3) := by decide +kernel
theorem dX12_isHere_61 : decode cX12_isHere 61 = .ok (.iload_n 2, 1) := by decide +kernel
theorem dX12_isHere_62 : decode cX12_isHere 62 = .ok (.aload_n 0, 1) := by decide +kernel
theorem dX12_isHere_63 : decode cX12_isHere 63 = .ok (.getfield 270, 3) := by decide +kernel
theorem dX12_isHere_66 : decode cX12_isHere 66 = .ok (.isub, 1) := by decide +kernel
theorem dX12_isHere_67 : decode cX12_isHere 67 = .ok (.aload_n 1, 1) := by decide +kernel
theorem dX12_isHere_68 : decode cX12_isHere 68 = .ok (.arraylength, 1) := by decide +kernel
theorem dX12_isHere_69 : decode cX12_isHere 69 = .ok (.if_icmp .eq 5, 3) := by decide +kernel
theorem dX12_isHere_72 : decode cX12_isHere 72 = .ok (.iconst 0, 1) := by decide +kernel
theorem dX12_isHere_73 : decode cX12_isHere 73 = .ok (.ireturn, 1) := by decide +kernel
theorem dX12_isHere_74 : decode cX12_isHere 74 = .ok (.iconst 0, 1) := by decide +kernel
theorem dX12_isHere_75 : decode cX12_isHere 75 = .ok (.istore_n 3, 1) := by decide +kernel
theorem dX12_isHere_76 : decode cX12_isHere 76 = .ok (.iload_n 3, 1) := by decide +kernel
theorem dX12_isHere_77 : decode cX12_isHere 77 = .ok (.aload_n 1, 1) := by decide +kernel
theorem dX12_isHere_78 : decode cX12_isHere 78 = .ok (.arraylength, 1) := by decide +kernel
theorem dX12_isHere_79 : decode cX12_isHere 79 = .ok (.if_icmp .ge 28, 3) := by decide +kernel
theorem dX12_isHere_82 : decode cX12_isHere 82 = .ok (.aload_n 0, 1) := by decide +kernel
theorem dX12_isHere_83 : decode cX12_isHere 83 = .ok (.getfield 7, 3) := by decide +kernel
theorem dX12_isHere_86 : decode cX12_isHere 86 = .ok (.aload_n 0, 1) := by decide +kernel
theorem dX12_isHere_87 : decode cX12_isHere 87 = .ok (.getfield 270, 3) := by decide +kernel
theorem dX12_isHere_90 : decode cX12_isHere 90 = .ok (.iload_n 3, 1) := by decide +kernel
theorem dX12_isHere_91 : decode cX12_isHere 91 = .ok (.iadd, 1) := by decide +kernel
theorem dX12_isHere_92 : decode cX12_isHere 92 = .ok (.iaload, 1) := by decide +kernel
theorem dX12_isHere_93 : decode cX12_isHere 93 = .ok (.aload_n 1, 1) := by decide +kernel
theorem dX12_isHere_94 : decode cX12_isHere 94 = .ok (.iload_n 3, 1) := by decide +kernel
theorem dX12_isHere_95 : decode cX12_isHere 95 = .ok (.caload, 1) := by decide +kernel
theorem dX12_isHere_96 : decode cX12_isHere 96 = .ok (.if_icmp .eq 5, 3) := by decide +kernel
theorem dX12_isHere_99 : decode cX12_isHere 99 = .ok (.iconst 0, 1) := by decide +kernel
theorem dX12_isHere_100 : decode cX12_isHere 100 = .ok (.ireturn, 1) := by decide +kernel
theorem dX12_isHere_101 : decode cX12_isHere 101 = .ok (.iinc 3 1, 3) := by decide +kernel
theorem dX12_isHere_104 : decode cX12_isHere 104 = .ok (.goto (-28), 3) := by decide +kernel
theorem dX12_isHere_107 : decode cX12_isHere 107 = .ok (.iconst 1, 1) := by decide +kernel
theorem dX12_isHere_108 : decode cX12_isHere 108 = .ok (.ireturn, 1) := by decide +kernel
def f_X12_isHere_76 (w1 n1 : Nat) : Nat → Int32 → Hp → Option (Int32 × Hp)
  | 0, _, _ => none
  | k + 1, x3, S => if (Int32.ofNat n1) ≤ x3 then some ((1 : Int32), S) else ldI S 1 1600 ((S.1 0 2) + x3) (fun v1 => ldI S w1 n1 x3 (fun v2 => if v1 = v2 then le1 (x3 + (1 : Int32)) (fun v3 => f_X12_isHere_76 w1 n1 k v3 S) else some ((0 : Int32), S)))
set_option maxHeartbeats 4000000 in
set_option maxRecDepth 100000 in
theorem w_X12_isHere_76 {p : Program} {l : Launch} {e : Env} {s : State} {m : MethodId} {args : Array Value} {below : List Frame} {meth : Method} {c : Code} {E : Ev} {S0 : Hp} {r : (Int32 × Hp)} (C : ho_I p s m args meth c RX12 cX12_isHere 4 (some .boolean)) (w1 n1 : Nat) (hw1 : w1 ∈ yM.1 ∧ yM.2.1 w1 = (3, n1)) :
    ∀ (k : Nat) (x3 : Int32) (S : Hp), f_X12_isHere_76 w1 n1 k x3 S = some r → ho_G p l e s m args below meth c yM E S0 1 4 (some (.int r.1), r.2) 76 [(0, .ref (E.2.1 0)), (1, .ref (E.2.1 w1)), (3, .int x3)] [] S := by
  intro k
  induction k with
  | zero =>
    intro x3 S h
    exact absurd (show (none : Option (Int32 × Hp)) = some r from h) (by simp)
  | succ k ih =>
    intro x3 S h H locs ls hR hl
    rw [f_X12_isHere_76] at h
    refine lv_iload_n C.1 C.2.1 dX12_isHere_76 rfl (lv_at hl 2 rfl) ?_
    refine lv_aload_n C.1 C.2.1 dX12_isHere_77 rfl (lv_at hl 1 rfl) ?_
    refine ho_alen (by decide) C hR hw1 dX12_isHere_78 ?_
    refine lv_icmp_ge (tgt := 107) C.1 C.2.1 dX12_isHere_79 (by decide) (fun hc => ?_) (fun hc => ?_)
    · replace h := if_t h hc
      refine lv_iconst (v := (1 : Int32)) C.1 C.2.1 dX12_isHere_107 (by decide) ?_
      exact ho_zret C hR (Or.inr rfl) h dX12_isHere_108
    · replace h := if_f h hc
      refine lv_aload_n C.1 C.2.1 dX12_isHere_82 rfl (lv_at hl 0 rfl) ?_
      refine ho_getR (a' := 1) C cf12 fM_7 hR aM_0 rfl dX12_isHere_83 ?_
      refine lv_aload_n C.1 C.2.1 dX12_isHere_86 rfl (lv_at hl 0 rfl) ?_
      refine ho_getI C cf12 fM_270 hR aM_0 dX12_isHere_87 ?_
      refine lv_iload_n C.1 C.2.1 dX12_isHere_90 rfl (lv_at hl 2 rfl) ?_
      refine lv_iadd C.1 C.2.1 dX12_isHere_91 ?_
      obtain ⟨v1, e1, hi1, h⟩ := ldI_ok h
      refine hr_ild C hR aM_1 hi1 e1 dX12_isHere_92 ?_
      refine lv_aload_n C.1 C.2.1 dX12_isHere_93 rfl (lv_at hl 1 rfl) ?_
      refine lv_iload_n C.1 C.2.1 dX12_isHere_94 rfl (lv_at hl 2 rfl) ?_
      obtain ⟨v2, e2, hi2, h⟩ := ldI_ok h
      refine hr_cld C hR hw1 hi2 e2 dX12_isHere_95 ?_
      refine lv_icmp_eq (tgt := 101) C.1 C.2.1 dX12_isHere_96 (by decide) (fun hc => ?_) (fun hc => ?_)
      · replace h := if_t h hc
        obtain ⟨v3, e3, h⟩ := le1_ok h
        refine lv_iinc (v := v3) (lv' := [(3, .int v3), (0, .ref (E.2.1 0)), (1, .ref (E.2.1 w1))]) C.1 C.2.1 dX12_isHere_101 hl (k := 2) rfl (by rw [e3]; rfl) (by decide) rfl (fun ls hl => ?_)
        refine lv_goto (tgt := 76) C.1 C.2.1 dX12_isHere_104 (by decide) ?_
        exact ih v3 S h _ _ _ hR (lv_sub hl [1, 2, 0] rfl)
      · replace h := if_f h hc
        refine lv_iconst (v := (0 : Int32)) C.1 C.2.1 dX12_isHere_99 (by decide) ?_
        exact ho_zret C hR (Or.inl rfl) h dX12_isHere_100
def f_X12_isHere_61 (w1 n1 : Nat) (x2 : Int32) (S : Hp) : Option (Int32 × Hp) :=
  if (x2 - (S.1 0 2)) = (Int32.ofNat n1) then f_X12_isHere_76 w1 n1 5000 (0 : Int32) S else some ((0 : Int32), S)
set_option maxHeartbeats 4000000 in
set_option maxRecDepth 100000 in
theorem w_X12_isHere_61 {p : Program} {l : Launch} {e : Env} {s : State} {m : MethodId} {args : Array Value} {below : List Frame} {meth : Method} {c : Code} {E : Ev} {S0 : Hp} {r : (Int32 × Hp)} (C : ho_I p s m args meth c RX12 cX12_isHere 4 (some .boolean)) (w1 n1 : Nat) (hw1 : w1 ∈ yM.1 ∧ yM.2.1 w1 = (3, n1)) :
    ∀ (x2 : Int32) (S : Hp), f_X12_isHere_61 w1 n1 x2 S = some r → ho_G p l e s m args below meth c yM E S0 1 4 (some (.int r.1), r.2) 61 [(0, .ref (E.2.1 0)), (1, .ref (E.2.1 w1)), (2, .int x2)] [] S := by
  intro x2 S h H locs ls hR hl
  unfold f_X12_isHere_61 at h
  refine lv_iload_n C.1 C.2.1 dX12_isHere_61 rfl (lv_at hl 2 rfl) ?_
  refine lv_aload_n C.1 C.2.1 dX12_isHere_62 rfl (lv_at hl 0 rfl) ?_
  refine ho_getI C cf12 fM_270 hR aM_0 dX12_isHere_63 ?_
  refine lv_isub C.1 C.2.1 dX12_isHere_66 ?_
  refine lv_aload_n C.1 C.2.1 dX12_isHere_67 rfl (lv_at hl 1 rfl) ?_
  refine ho_alen (by decide) C hR hw1 dX12_isHere_68 ?_
  refine lv_icmp_eq (tgt := 74) C.1 C.2.1 dX12_isHere_69 (by decide) (fun hc => ?_) (fun hc => ?_)
  · replace h := if_t h hc
    refine lv_iconst (v := (0 : Int32)) C.1 C.2.1 dX12_isHere_74 (by decide) ?_
    refine lv_istore_n (lv' := [(3, .int (0 : Int32)), (0, .ref (E.2.1 0)), (1, .ref (E.2.1 w1)), (2, .int x2)]) C.1 C.2.1 dX12_isHere_75 rfl hl (by decide) rfl (fun ls hl => ?_)
    exact w_X12_isHere_76 C w1 n1 hw1 5000 (0 : Int32) S h _ _ _ hR (lv_sub hl [1, 2, 0] rfl)
  · replace h := if_f h hc
    refine lv_iconst (v := (0 : Int32)) C.1 C.2.1 dX12_isHere_72 (by decide) ?_
    exact ho_zret C hR (Or.inl rfl) h dX12_isHere_73
def f_X12_isHere_35 (w1 n1 : Nat) : Nat → Int32 → Hp → Option (Int32 × Hp)
  | 0, _, _ => none
  | k + 1, x2, S => if (S.1 0 3) ≤ x2 then f_X12_isHere_61 w1 n1 x2 S else ldI S 1 1600 x2 (fun v1 => ob2 (f_X12_isLetter v1 S) (fun r2 S2 => if r2 = 0 then f_X12_isHere_61 w1 n1 x2 S2 else le1 (x2 + (1 : Int32)) (fun v3 => f_X12_isHere_35 w1 n1 k v3 S2)))
set_option maxHeartbeats 4000000 in
set_option maxRecDepth 100000 in
theorem w_X12_isHere_35 {p : Program} {l : Launch} {e : Env} {s : State} {m : MethodId} {args : Array Value} {below : List Frame} {meth : Method} {c : Code} {E : Ev} {S0 : Hp} {r : (Int32 × Hp)} (C : ho_I p s m args meth c RX12 cX12_isHere 4 (some .boolean)) (w1 n1 : Nat) (hw1 : w1 ∈ yM.1 ∧ yM.2.1 w1 = (3, n1)) :
    ∀ (k : Nat) (x2 : Int32) (S : Hp), f_X12_isHere_35 w1 n1 k x2 S = some r → ho_G p l e s m args below meth c yM E S0 1 4 (some (.int r.1), r.2) 35 [(0, .ref (E.2.1 0)), (1, .ref (E.2.1 w1)), (2, .int x2)] [] S := by
  intro k
  induction k with
  | zero =>
    intro x2 S h
    exact absurd (show (none : Option (Int32 × Hp)) = some r from h) (by simp)
  | succ k ih =>
    intro x2 S h H locs ls hR hl
    rw [f_X12_isHere_35] at h
    refine lv_iload_n C.1 C.2.1 dX12_isHere_35 rfl (lv_at hl 2 rfl) ?_
    refine lv_aload_n C.1 C.2.1 dX12_isHere_36 rfl (lv_at hl 0 rfl) ?_
    refine ho_getI C cf12 fM_273 hR aM_0 dX12_isHere_37 ?_
    refine lv_icmp_ge (tgt := 61) C.1 C.2.1 dX12_isHere_40 (by decide) (fun hc => ?_) (fun hc => ?_)
    · replace h := if_t h hc
      exact w_X12_isHere_61 C w1 n1 hw1 x2 S h _ _ _ hR (lv_sub hl [0, 1, 2] rfl)
    · replace h := if_f h hc
      refine lv_aload_n C.1 C.2.1 dX12_isHere_43 rfl (lv_at hl 0 rfl) ?_
      refine ho_getR (a' := 1) C cf12 fM_7 hR aM_0 rfl dX12_isHere_44 ?_
      refine lv_iload_n C.1 C.2.1 dX12_isHere_47 rfl (lv_at hl 2 rfl) ?_
      obtain ⟨v1, e1, hi1, h⟩ := ldI_ok h
      refine hr_ild C hR aM_1 hi1 e1 dX12_isHere_48 ?_
      obtain ⟨r2, S2, h2, h⟩ := ob2_ok h
      refine hr_Si (v := r2) (S' := S2) (As := [.int v1]) (rest := []) C (c_X12_isLetter l E v1 _ _ h2) ys_X12_isLetter lk_RX12_280 rfl rfl hl.1 (Nat.le_of_ble_eq_true rfl) (by decide) (by decide) hR (ho_A hR) dX12_isHere_49 (fun H locs hR => ?_)
      refine lv_if_eq (tgt := 61) C.1 C.2.1 dX12_isHere_52 (by decide) (fun hc => ?_) (fun hc => ?_)
      · replace h := if_t h hc
        exact w_X12_isHere_61 C w1 n1 hw1 x2 S2 h _ _ _ hR (lv_sub hl [0, 1, 2] rfl)
      · replace h := if_f h hc
        obtain ⟨v3, e3, h⟩ := le1_ok h
        refine lv_iinc (v := v3) (lv' := [(2, .int v3), (0, .ref (E.2.1 0)), (1, .ref (E.2.1 w1))]) C.1 C.2.1 dX12_isHere_55 hl (k := 2) rfl (by rw [e3]; rfl) (by decide) rfl (fun ls hl => ?_)
        refine lv_goto (tgt := 35) C.1 C.2.1 dX12_isHere_58 (by decide) ?_
        exact ih v3 S2 h _ _ _ hR (lv_sub hl [1, 2, 0] rfl)
def f_X12_isHere (w1 : Nat) (n1 : Nat) (S : Hp) : Option (Int32 × Hp) :=
  if (S.1 0 5) = 0 then ob2 (f_X12_look0 S) (fun r1 S1 => ob2 (f_X12_isLetter r1 S1) (fun r2 S2 => if r2 = 0 then some ((0 : Int32), S2) else if (S2.1 0 2) = (S2.1 0 4) then some ((0 : Int32), S2) else le1 (S2.1 0 2) (fun v3 => f_X12_isHere_35 w1 n1 5000 v3 S2))) else some ((0 : Int32), S)
set_option maxHeartbeats 4000000 in
set_option maxRecDepth 100000 in
theorem c_X12_isHere (l : Launch) (E : Ev) (w1 : Nat) (n1 : Nat) (hw1 : w1 ∈ yM.1 ∧ yM.2.1 w1 = (3, n1)) (S : Hp) (r : (Int32 × Hp)) (h : f_X12_isHere w1 n1 S = some r) : ho_M l yM E yX12_isHere cX12_isHere 4 (some .boolean) 1 [.ref (E.2.1 0), .ref (E.2.1 w1)] S (some (.int r.1), r.2) := by
  refine ho_in (by decide) (Nat.le_of_ble_eq_true rfl) ?_
  intro p e s m args below meth c C hR ls hl
  have C : ho_I p s m args meth c RX12 cX12_isHere 4 (some .boolean) := C
  have hl : lv_has ls 4 [(0, .ref (E.2.1 0)), (1, .ref (E.2.1 w1))] := hl
  unfold f_X12_isHere at h
  refine lv_aload_n C.1 C.2.1 dX12_isHere_0 rfl (lv_at hl 0 rfl) ?_
  refine ho_getI C cf12 fM_264 hR aM_0 dX12_isHere_1 ?_
  refine lv_if_ne (tgt := 28) C.1 C.2.1 dX12_isHere_4 (by decide) (fun hc => ?_) (fun hc => ?_)
  · replace h := if_f h hc
    refine lv_iconst (v := (0 : Int32)) C.1 C.2.1 dX12_isHere_28 (by decide) ?_
    exact ho_zret C hR (Or.inl rfl) h dX12_isHere_29
  · replace h := if_t h hc
    refine lv_aload_n C.1 C.2.1 dX12_isHere_7 rfl (lv_at hl 0 rfl) ?_
    obtain ⟨r1, S1, h1, h⟩ := ob2_ok h
    refine hr_Vi (v := r1) (S' := S1) (As := []) (rest := []) C cf12 (c_X12_look0 l E _ _ h1) yv_X12_look0 lk_RX12_276 rfl aM_0 rfl rfl hl.1 (Nat.le_of_ble_eq_true rfl) (by decide) (by decide) hR (ho_A hR) dX12_isHere_8 (fun H locs hR => ?_)
    obtain ⟨r2, S2, h2, h⟩ := ob2_ok h
    refine hr_Si (v := r2) (S' := S2) (As := [.int r1]) (rest := []) C (c_X12_isLetter l E r1 _ _ h2) ys_X12_isLetter lk_RX12_280 rfl rfl hl.1 (Nat.le_of_ble_eq_true rfl) (by decide) (by decide) hR (ho_A hR) dX12_isHere_11 (fun H locs hR => ?_)
    refine lv_if_eq (tgt := 28) C.1 C.2.1 dX12_isHere_14 (by decide) (fun hc => ?_) (fun hc => ?_)
    · replace h := if_t h hc
      refine lv_iconst (v := (0 : Int32)) C.1 C.2.1 dX12_isHere_28 (by decide) ?_
      exact ho_zret C hR (Or.inl rfl) h dX12_isHere_29
    · replace h := if_f h hc
      refine lv_aload_n C.1 C.2.1 dX12_isHere_17 rfl (lv_at hl 0 rfl) ?_
      refine ho_getI C cf12 fM_270 hR aM_0 dX12_isHere_18 ?_
      refine lv_aload_n C.1 C.2.1 dX12_isHere_21 rfl (lv_at hl 0 rfl) ?_
      refine ho_getI C cf12 fM_284 hR aM_0 dX12_isHere_22 ?_
      refine lv_icmp_ne (tgt := 30) C.1 C.2.1 dX12_isHere_25 (by decide) (fun hc => ?_) (fun hc => ?_)
      · replace h := if_f h hc
        refine lv_aload_n C.1 C.2.1 dX12_isHere_30 rfl (lv_at hl 0 rfl) ?_
        refine ho_getI C cf12 fM_270 hR aM_0 dX12_isHere_31 ?_
        refine lv_topi (fun v3 e3 => ?_)
        replace h := le1_at e3 h
        refine lv_istore_n (lv' := [(2, .int v3), (0, .ref (E.2.1 0)), (1, .ref (E.2.1 w1))]) C.1 C.2.1 dX12_isHere_34 rfl hl (by decide) rfl (fun ls hl => ?_)
        exact w_X12_isHere_35 C w1 n1 hw1 5000 v3 S2 h _ _ _ hR (lv_sub hl [1, 2, 0] rfl)
      · replace h := if_t h hc
        refine lv_iconst (v := (0 : Int32)) C.1 C.2.1 dX12_isHere_28 (by decide) ?_
        exact ho_zret C hR (Or.inl rfl) h dX12_isHere_29
theorem dX12_takes_0 : decode cX12_takes 0 = .ok (.aload_n 0, 1) := by decide +kernel
theorem dX12_takes_1 : decode cX12_takes 1 = .ok (.aload_n 1, 1) := by decide +kernel
theorem dX12_takes_2 : decode cX12_takes 2 = .ok (.invokevirtual 287, 3) := by decide +kernel
theorem dX12_takes_5 : decode cX12_takes 5 = .ok (.ifCond .ne 5, 3) := by decide +kernel
theorem dX12_takes_8 : decode cX12_takes 8 = .ok (.iconst 0, 1) := by decide +kernel
theorem dX12_takes_9 : decode cX12_takes 9 = .ok (.ireturn, 1) := by decide +kernel
theorem dX12_takes_10 : decode cX12_takes 10 = .ok (.aload_n 0, 1) := by decide +kernel
theorem dX12_takes_11 : decode cX12_takes 11 = .ok (.dup, 1) := by decide +kernel
theorem dX12_takes_12 : decode cX12_takes 12 = .ok (.getfield 270, 3) := by decide +kernel
theorem dX12_takes_15 : decode cX12_takes 15 = .ok (.aload_n 1, 1) := by decide +kernel
theorem dX12_takes_16 : decode cX12_takes 16 = .ok (.arraylength, 1) := by decide +kernel
theorem dX12_takes_17 : decode cX12_takes 17 = .ok (.iadd, 1) := by decide +kernel
theorem dX12_takes_18 : decode cX12_takes 18 = .ok (.putfield 270, 3) := by decide +kernel
theorem dX12_takes_21 : decode cX12_takes 21 = .ok (.aload_n 0, 1) := by decide +kernel
theorem dX12_takes_22 : decode cX12_takes 22 = .ok (.aload_n 0, 1) := by decide +kernel
theorem dX12_takes_23 : decode cX12_takes 23 = .ok (.getfield 270, 3) := by decide +kernel
theorem dX12_takes_26 : decode cX12_takes 26 = .ok (.putfield 284, 3) := by decide +kernel
theorem dX12_takes_29 : decode cX12_takes 29 = .ok (.iconst 1, 1) := by decide +kernel
theorem dX12_takes_30 : decode cX12_takes 30 = .ok (.ireturn, 1) := by decide +kernel
def f_X12_takes (w1 : Nat) (n1 : Nat) (S : Hp) : Option (Int32 × Hp) :=
  ob2 (f_X12_isHere w1 n1 S) (fun r1 S1 => if r1 = 0 then some ((0 : Int32), S1) else le1 (ho_sI S1 0 2 ((S1.1 0 2) + (Int32.ofNat n1))) (fun S2 => le1 (ho_sI S2 0 4 (S2.1 0 2)) (fun S3 => some ((1 : Int32), S3))))
set_option maxHeartbeats 4000000 in
set_option maxRecDepth 100000 in
theorem c_X12_takes (l : Launch) (E : Ev) (w1 : Nat) (n1 : Nat) (hw1 : w1 ∈ yM.1 ∧ yM.2.1 w1 = (3, n1)) (S : Hp) (r : (Int32 × Hp)) (h : f_X12_takes w1 n1 S = some r) : ho_M l yM E yX12_takes cX12_takes 2 (some .boolean) 2 [.ref (E.2.1 0), .ref (E.2.1 w1)] S (some (.int r.1), r.2) := by
  refine ho_in (by decide) (Nat.le_of_ble_eq_true rfl) ?_
  intro p e s m args below meth c C hR ls hl
  have C : ho_I p s m args meth c RX12 cX12_takes 2 (some .boolean) := C
  have hl : lv_has ls 2 [(0, .ref (E.2.1 0)), (1, .ref (E.2.1 w1))] := hl
  unfold f_X12_takes at h
  refine lv_aload_n C.1 C.2.1 dX12_takes_0 rfl (lv_at hl 0 rfl) ?_
  refine lv_aload_n C.1 C.2.1 dX12_takes_1 rfl (lv_at hl 1 rfl) ?_
  obtain ⟨r1, S1, h1, h⟩ := ob2_ok h
  refine hr_Vi (v := r1) (S' := S1) (As := [.ref (E.2.1 w1)]) (rest := []) C cf12 (c_X12_isHere l E w1 n1 hw1 _ _ h1) yv_X12_isHere lk_RX12_287 rfl aM_0 rfl rfl hl.1 (Nat.le_of_ble_eq_true rfl) (by decide) (by decide) hR (ho_A hR) dX12_takes_2 (fun H locs hR => ?_)
  refine lv_if_ne (tgt := 10) C.1 C.2.1 dX12_takes_5 (by decide) (fun hc => ?_) (fun hc => ?_)
  · replace h := if_f h hc
    refine lv_aload_n C.1 C.2.1 dX12_takes_10 rfl (lv_at hl 0 rfl) ?_
    refine lv_dup C.1 C.2.1 dX12_takes_11 rfl ?_
    refine ho_getI C cf12 fM_270 hR aM_0 dX12_takes_12 ?_
    refine lv_aload_n C.1 C.2.1 dX12_takes_15 rfl (lv_at hl 1 rfl) ?_
    refine ho_alen (by decide) C hR hw1 dX12_takes_16 ?_
    refine lv_iadd C.1 C.2.1 dX12_takes_17 ?_
    obtain ⟨S2, e2, h⟩ := le1_ok h
    refine hr_putI C cf12 fM_270 hR aM_0 e2 dX12_takes_18 (fun H locs hR => ?_)
    refine lv_aload_n C.1 C.2.1 dX12_takes_21 rfl (lv_at hl 0 rfl) ?_
    refine lv_aload_n C.1 C.2.1 dX12_takes_22 rfl (lv_at hl 0 rfl) ?_
    refine ho_getI C cf12 fM_270 hR aM_0 dX12_takes_23 ?_
    obtain ⟨S3, e3, h⟩ := le1_ok h
    refine hr_putI C cf12 fM_284 hR aM_0 e3 dX12_takes_26 (fun H locs hR => ?_)
    refine lv_iconst (v := (1 : Int32)) C.1 C.2.1 dX12_takes_29 (by decide) ?_
    exact ho_zret C hR (Or.inr rfl) h dX12_takes_30
  · replace h := if_t h hc
    refine lv_iconst (v := (0 : Int32)) C.1 C.2.1 dX12_takes_8 (by decide) ?_
    exact ho_zret C hR (Or.inl rfl) h dX12_takes_9
theorem dX12_asks_0 : decode cX12_asks 0 = .ok (.aload_n 0, 1) := by decide +kernel
theorem dX12_asks_1 : decode cX12_asks 1 = .ok (.getfield 264, 3) := by decide +kernel
theorem dX12_asks_4 : decode cX12_asks 4 = .ok (.ifCond .ne 20, 3) := by decide +kernel
theorem dX12_asks_7 : decode cX12_asks 7 = .ok (.aload_n 0, 1) := by decide +kernel
theorem dX12_asks_8 : decode cX12_asks 8 = .ok (.aload_n 1, 1) := by decide +kernel
theorem dX12_asks_9 : decode cX12_asks 9 = .ok (.invokevirtual 291, 3) := by decide +kernel
theorem dX12_asks_12 : decode cX12_asks 12 = .ok (.ifCond .ne 12, 3) := by decide +kernel
theorem dX12_asks_15 : decode cX12_asks 15 = .ok (.aload_n 0, 1) := by decide +kernel
theorem dX12_asks_16 : decode cX12_asks 16 = .ok (.iconst 1, 1) := by decide +kernel
theorem dX12_asks_17 : decode cX12_asks 17 = .ok (.aload_n 0, 1) := by decide +kernel
theorem dX12_asks_18 : decode cX12_asks 18 = .ok (.getfield 270, 3) := by decide +kernel
theorem dX12_asks_21 : decode cX12_asks 21 = .ok (.invokevirtual 294, 3) := by decide +kernel
theorem dX12_asks_24 : decode cX12_asks 24 = .ok (.return_, 1) := by decide +kernel
def f_X12_asks (w1 : Nat) (n1 : Nat) (S : Hp) : Option Hp :=
  if (S.1 0 5) = 0 then ob2 (f_X12_takes w1 n1 S) (fun r1 S1 => if r1 = 0 then ob (f_X12_fail (1 : Int32) (S1.1 0 2) S1) (fun S2 => some S2) else some S1) else some S
set_option maxHeartbeats 4000000 in
set_option maxRecDepth 100000 in
theorem c_X12_asks (l : Launch) (E : Ev) (w1 : Nat) (n1 : Nat) (hw1 : w1 ∈ yM.1 ∧ yM.2.1 w1 = (3, n1)) (S : Hp) (r : Hp) (h : f_X12_asks w1 n1 S = some r) : ho_M l yM E yX12_asks cX12_asks 2 none 3 [.ref (E.2.1 0), .ref (E.2.1 w1)] S (none, r) := by
  refine ho_in (by decide) (Nat.le_of_ble_eq_true rfl) ?_
  intro p e s m args below meth c C hR ls hl
  have C : ho_I p s m args meth c RX12 cX12_asks 2 none := C
  have hl : lv_has ls 2 [(0, .ref (E.2.1 0)), (1, .ref (E.2.1 w1))] := hl
  unfold f_X12_asks at h
  refine lv_aload_n C.1 C.2.1 dX12_asks_0 rfl (lv_at hl 0 rfl) ?_
  refine ho_getI C cf12 fM_264 hR aM_0 dX12_asks_1 ?_
  refine lv_if_ne (tgt := 24) C.1 C.2.1 dX12_asks_4 (by decide) (fun hc => ?_) (fun hc => ?_)
  · replace h := if_f h hc
    exact ho_vret C hR h dX12_asks_24
  · replace h := if_t h hc
    refine lv_aload_n C.1 C.2.1 dX12_asks_7 rfl (lv_at hl 0 rfl) ?_
    refine lv_aload_n C.1 C.2.1 dX12_asks_8 rfl (lv_at hl 1 rfl) ?_
    obtain ⟨r1, S1, h1, h⟩ := ob2_ok h
    refine hr_Vi (v := r1) (S' := S1) (As := [.ref (E.2.1 w1)]) (rest := []) C cf12 (c_X12_takes l E w1 n1 hw1 _ _ h1) yv_X12_takes lk_RX12_291 rfl aM_0 rfl rfl hl.1 (Nat.le_of_ble_eq_true rfl) (by decide) (by decide) hR (ho_A hR) dX12_asks_9 (fun H locs hR => ?_)
    refine lv_if_ne (tgt := 24) C.1 C.2.1 dX12_asks_12 (by decide) (fun hc => ?_) (fun hc => ?_)
    · replace h := if_f h hc
      exact ho_vret C hR h dX12_asks_24
    · replace h := if_t h hc
      refine lv_aload_n C.1 C.2.1 dX12_asks_15 rfl (lv_at hl 0 rfl) ?_
      refine lv_iconst (v := (1 : Int32)) C.1 C.2.1 dX12_asks_16 (by decide) ?_
      refine lv_aload_n C.1 C.2.1 dX12_asks_17 rfl (lv_at hl 0 rfl) ?_
      refine ho_getI C cf12 fM_270 hR aM_0 dX12_asks_18 ?_
      obtain ⟨S2, h2, h⟩ := ob_ok h
      refine hr_Vv (S' := S2) (As := [.int (1 : Int32), .int (S1.1 0 2)]) (rest := []) C cf12 (c_X12_fail l E (1 : Int32) (S1.1 0 2) _ _ h2) yv_X12_fail lk_RX12_294 rfl aM_0 rfl rfl hl.1 (Nat.le_of_ble_eq_true rfl) (by decide) (by decide) hR (ho_A hR) dX12_asks_21 (fun H locs hR => ?_)
      exact ho_vret C hR h dX12_asks_24
theorem dX12_takesSign_0 : decode cX12_takesSign 0 = .ok (.aload_n 0, 1) := by decide +kernel
theorem dX12_takesSign_1 : decode cX12_takesSign 1 = .ok (.getfield 264, 3) := by decide +kernel
theorem dX12_takesSign_4 : decode cX12_takesSign 4 = .ok (.ifCond .ne 11, 3) := by decide +kernel
theorem dX12_takesSign_7 : decode cX12_takesSign 7 = .ok (.aload_n 0, 1) := by decide +kernel
theorem dX12_takesSign_8 : decode cX12_takesSign 8 = .ok (.invokevirtual 276, 3) := by decide +kernel
theorem dX12_takesSign_11 : decode cX12_takesSign 11 = .ok (.iload_n 1, 1) := by decide +kernel
theorem dX12_takesSign_12 : decode cX12_takesSign 12 = .ok (.if_icmp .eq 5, 3) := by decide +kernel
theorem dX12_takesSign_15 : decode cX12_takesSign 15 = .ok (.iconst 0, 1) := by decide +kernel
theorem dX12_takesSign_16 : decode cX12_takesSign 16 = .ok (.ireturn, 1) := by decide +kernel
theorem dX12_takesSign_17 : decode cX12_takesSign 17 = .ok (.aload_n 0, 1) := by decide +kernel
theorem dX12_takesSign_18 : decode cX12_takesSign 18 = .ok (.dup, 1) := by decide +kernel
theorem dX12_takesSign_19 : decode cX12_takesSign 19 = .ok (.getfield 270, 3) := by decide +kernel
theorem dX12_takesSign_22 : decode cX12_takesSign 22 = .ok (.iconst 1, 1) := by decide +kernel
theorem dX12_takesSign_23 : decode cX12_takesSign 23 = .ok (.iadd, 1) := by decide +kernel
theorem dX12_takesSign_24 : decode cX12_takesSign 24 = .ok (.putfield 270, 3) := by decide +kernel
theorem dX12_takesSign_27 : decode cX12_takesSign 27 = .ok (.iconst 1, 1) := by decide +kernel
theorem dX12_takesSign_28 : decode cX12_takesSign 28 = .ok (.ireturn, 1) := by decide +kernel
def f_X12_takesSign (x1 : Int32) (S : Hp) : Option (Int32 × Hp) :=
  if (S.1 0 5) = 0 then ob2 (f_X12_look0 S) (fun r1 S1 => if r1 = x1 then le1 (ho_sI S1 0 2 ((S1.1 0 2) + (1 : Int32))) (fun S2 => some ((1 : Int32), S2)) else some ((0 : Int32), S1)) else some ((0 : Int32), S)
set_option maxHeartbeats 4000000 in
set_option maxRecDepth 100000 in
theorem c_X12_takesSign (l : Launch) (E : Ev) (x1 : Int32) (S : Hp) (r : (Int32 × Hp)) (h : f_X12_takesSign x1 S = some r) : ho_M l yM E yX12_takesSign cX12_takesSign 2 (some .boolean) 1 [.ref (E.2.1 0), .int x1] S (some (.int r.1), r.2) := by
  refine ho_in (by decide) (Nat.le_of_ble_eq_true rfl) ?_
  intro p e s m args below meth c C hR ls hl
  have C : ho_I p s m args meth c RX12 cX12_takesSign 2 (some .boolean) := C
  have hl : lv_has ls 2 [(0, .ref (E.2.1 0)), (1, .int x1)] := hl
  unfold f_X12_takesSign at h
  refine lv_aload_n C.1 C.2.1 dX12_takesSign_0 rfl (lv_at hl 0 rfl) ?_
  refine ho_getI C cf12 fM_264 hR aM_0 dX12_takesSign_1 ?_
  refine lv_if_ne (tgt := 15) C.1 C.2.1 dX12_takesSign_4 (by decide) (fun hc => ?_) (fun hc => ?_)
  · replace h := if_f h hc
    refine lv_iconst (v := (0 : Int32)) C.1 C.2.1 dX12_takesSign_15 (by decide) ?_
    exact ho_zret C hR (Or.inl rfl) h dX12_takesSign_16
  · replace h := if_t h hc
    refine lv_aload_n C.1 C.2.1 dX12_takesSign_7 rfl (lv_at hl 0 rfl) ?_
    obtain ⟨r1, S1, h1, h⟩ := ob2_ok h
    refine hr_Vi (v := r1) (S' := S1) (As := []) (rest := []) C cf12 (c_X12_look0 l E _ _ h1) yv_X12_look0 lk_RX12_276 rfl aM_0 rfl rfl hl.1 (Nat.le_of_ble_eq_true rfl) (by decide) (by decide) hR (ho_A hR) dX12_takesSign_8 (fun H locs hR => ?_)
    refine lv_iload_n C.1 C.2.1 dX12_takesSign_11 rfl (lv_at hl 1 rfl) ?_
    refine lv_icmp_eq (tgt := 17) C.1 C.2.1 dX12_takesSign_12 (by decide) (fun hc => ?_) (fun hc => ?_)
    · replace h := if_t h hc
      refine lv_aload_n C.1 C.2.1 dX12_takesSign_17 rfl (lv_at hl 0 rfl) ?_
      refine lv_dup C.1 C.2.1 dX12_takesSign_18 rfl ?_
      refine ho_getI C cf12 fM_270 hR aM_0 dX12_takesSign_19 ?_
      refine lv_iconst (v := (1 : Int32)) C.1 C.2.1 dX12_takesSign_22 (by decide) ?_
      refine lv_iadd C.1 C.2.1 dX12_takesSign_23 ?_
      obtain ⟨S2, e2, h⟩ := le1_ok h
      refine hr_putI C cf12 fM_270 hR aM_0 e2 dX12_takesSign_24 (fun H locs hR => ?_)
      refine lv_iconst (v := (1 : Int32)) C.1 C.2.1 dX12_takesSign_27 (by decide) ?_
      exact ho_zret C hR (Or.inr rfl) h dX12_takesSign_28
    · replace h := if_f h hc
      refine lv_iconst (v := (0 : Int32)) C.1 C.2.1 dX12_takesSign_15 (by decide) ?_
      exact ho_zret C hR (Or.inl rfl) h dX12_takesSign_16
theorem dX12_asksSign_0 : decode cX12_asksSign 0 = .ok (.aload_n 0, 1) := by decide +kernel
theorem dX12_asksSign_1 : decode cX12_asksSign 1 = .ok (.getfield 264, 3) := by decide +kernel
theorem dX12_asksSign_4 : decode cX12_asksSign 4 = .ok (.ifCond .ne 20, 3) := by decide +kernel
theorem dX12_asksSign_7 : decode cX12_asksSign 7 = .ok (.aload_n 0, 1) := by decide +kernel
theorem dX12_asksSign_8 : decode cX12_asksSign 8 = .ok (.iload_n 1, 1) := by decide +kernel
theorem dX12_asksSign_9 : decode cX12_asksSign 9 = .ok (.invokevirtual 298, 3) := by decide +kernel
theorem dX12_asksSign_12 : decode cX12_asksSign 12 = .ok (.ifCond .ne 12, 3) := by decide +kernel
theorem dX12_asksSign_15 : decode cX12_asksSign 15 = .ok (.aload_n 0, 1) := by decide +kernel
theorem dX12_asksSign_16 : decode cX12_asksSign 16 = .ok (.iconst 1, 1) := by decide +kernel
theorem dX12_asksSign_17 : decode cX12_asksSign 17 = .ok (.aload_n 0, 1) := by decide +kernel
theorem dX12_asksSign_18 : decode cX12_asksSign 18 = .ok (.getfield 270, 3) := by decide +kernel
theorem dX12_asksSign_21 : decode cX12_asksSign 21 = .ok (.invokevirtual 294, 3) := by decide +kernel
theorem dX12_asksSign_24 : decode cX12_asksSign 24 = .ok (.return_, 1) := by decide +kernel
def f_X12_asksSign (x1 : Int32) (S : Hp) : Option Hp :=
  if (S.1 0 5) = 0 then ob2 (f_X12_takesSign x1 S) (fun r1 S1 => if r1 = 0 then ob (f_X12_fail (1 : Int32) (S1.1 0 2) S1) (fun S2 => some S2) else some S1) else some S
set_option maxHeartbeats 4000000 in
set_option maxRecDepth 100000 in
theorem c_X12_asksSign (l : Launch) (E : Ev) (x1 : Int32) (S : Hp) (r : Hp) (h : f_X12_asksSign x1 S = some r) : ho_M l yM E yX12_asksSign cX12_asksSign 2 none 2 [.ref (E.2.1 0), .int x1] S (none, r) := by
  refine ho_in (by decide) (Nat.le_of_ble_eq_true rfl) ?_
  intro p e s m args below meth c C hR ls hl
  have C : ho_I p s m args meth c RX12 cX12_asksSign 2 none := C
  have hl : lv_has ls 2 [(0, .ref (E.2.1 0)), (1, .int x1)] := hl
  unfold f_X12_asksSign at h
  refine lv_aload_n C.1 C.2.1 dX12_asksSign_0 rfl (lv_at hl 0 rfl) ?_
  refine ho_getI C cf12 fM_264 hR aM_0 dX12_asksSign_1 ?_
  refine lv_if_ne (tgt := 24) C.1 C.2.1 dX12_asksSign_4 (by decide) (fun hc => ?_) (fun hc => ?_)
  · replace h := if_f h hc
    exact ho_vret C hR h dX12_asksSign_24
  · replace h := if_t h hc
    refine lv_aload_n C.1 C.2.1 dX12_asksSign_7 rfl (lv_at hl 0 rfl) ?_
    refine lv_iload_n C.1 C.2.1 dX12_asksSign_8 rfl (lv_at hl 1 rfl) ?_
    obtain ⟨r1, S1, h1, h⟩ := ob2_ok h
    refine hr_Vi (v := r1) (S' := S1) (As := [.int x1]) (rest := []) C cf12 (c_X12_takesSign l E x1 _ _ h1) yv_X12_takesSign lk_RX12_298 rfl aM_0 rfl rfl hl.1 (Nat.le_of_ble_eq_true rfl) (by decide) (by decide) hR (ho_A hR) dX12_asksSign_9 (fun H locs hR => ?_)
    refine lv_if_ne (tgt := 24) C.1 C.2.1 dX12_asksSign_12 (by decide) (fun hc => ?_) (fun hc => ?_)
    · replace h := if_f h hc
      exact ho_vret C hR h dX12_asksSign_24
    · replace h := if_t h hc
      refine lv_aload_n C.1 C.2.1 dX12_asksSign_15 rfl (lv_at hl 0 rfl) ?_
      refine lv_iconst (v := (1 : Int32)) C.1 C.2.1 dX12_asksSign_16 (by decide) ?_
      refine lv_aload_n C.1 C.2.1 dX12_asksSign_17 rfl (lv_at hl 0 rfl) ?_
      refine ho_getI C cf12 fM_270 hR aM_0 dX12_asksSign_18 ?_
      obtain ⟨S2, h2, h⟩ := ob_ok h
      refine hr_Vv (S' := S2) (As := [.int (1 : Int32), .int (S1.1 0 2)]) (rest := []) C cf12 (c_X12_fail l E (1 : Int32) (S1.1 0 2) _ _ h2) yv_X12_fail lk_RX12_294 rfl aM_0 rfl rfl hl.1 (Nat.le_of_ble_eq_true rfl) (by decide) (by decide) hR (ho_A hR) dX12_asksSign_21 (fun H locs hR => ?_)
      exact ho_vret C hR h dX12_asksSign_24
end
