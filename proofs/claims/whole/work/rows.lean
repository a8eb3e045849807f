section
-- ===== PART A: goes FIRST, ahead of the names: the tables' words, and 'selects' of the private methods out of them =====
/-- a private method of a class that the tables say can be made, by its rows of tables_1 -/
def lw_okq (q : MethodName × Nat) : Prop := (q.1.cls ≠ "java/lang/invoke/MethodHandle" ∧ q.1.cls ≠ "java/lang/invoke/VarHandle") ∧ Cond.instantiable q.1.cls q.2 ∈ tables_1 ∧ Cond.privateMethod q.1 ∈ tables_1 ∧ Cond.instanceMethod q.1 ∈ tables_1
theorem lw_p0 : lw_okq (⟨"EmptyHat", "refuse", "(I)I"⟩, 17) := ⟨⟨by decide +kernel, by decide +kernel⟩, List.mem_of_getElem? (i := 23) (by decide +kernel), List.mem_of_getElem? (i := 589) (by decide +kernel), List.mem_of_getElem? (i := 590) (by decide +kernel)⟩
theorem lw_p1 : lw_okq (⟨"EmptyHat", "refuses", "(I)Z"⟩, 17) := ⟨⟨by decide +kernel, by decide +kernel⟩, List.mem_of_getElem? (i := 23) (by decide +kernel), List.mem_of_getElem? (i := 601) (by decide +kernel), List.mem_of_getElem? (i := 602) (by decide +kernel)⟩
theorem lw_p2 : lw_okq (⟨"EmptyHat$Text", "readWord", "()V"⟩, 11) := ⟨⟨by decide +kernel, by decide +kernel⟩, List.mem_of_getElem? (i := 31) (by decide +kernel), List.mem_of_getElem? (i := 636) (by decide +kernel), List.mem_of_getElem? (i := 637) (by decide +kernel)⟩
theorem lw_p3 : lw_okq (⟨"EmptyHat$Text", "readDigits", "()V"⟩, 11) := ⟨⟨by decide +kernel, by decide +kernel⟩, List.mem_of_getElem? (i := 31) (by decide +kernel), List.mem_of_getElem? (i := 640) (by decide +kernel), List.mem_of_getElem? (i := 641) (by decide +kernel)⟩
theorem lw_p4 : lw_okq (⟨"EmptyHat$CrownReader", "treasury", "()Z"⟩, 5) := ⟨⟨by decide +kernel, by decide +kernel⟩, List.mem_of_getElem? (i := 246) (by decide +kernel), List.mem_of_getElem? (i := 644) (by decide +kernel), List.mem_of_getElem? (i := 645) (by decide +kernel)⟩
theorem lw_p5 : lw_okq (⟨"EmptyHat$CrownReader", "statement", "()Z"⟩, 5) := ⟨⟨by decide +kernel, by decide +kernel⟩, List.mem_of_getElem? (i := 246) (by decide +kernel), List.mem_of_getElem? (i := 672) (by decide +kernel), List.mem_of_getElem? (i := 673) (by decide +kernel)⟩
theorem lw_p6 : lw_okq (⟨"EmptyHat$CrownReader", "oneMore", "(II)Z"⟩, 5) := ⟨⟨by decide +kernel, by decide +kernel⟩, List.mem_of_getElem? (i := 246) (by decide +kernel), List.mem_of_getElem? (i := 677) (by decide +kernel), List.mem_of_getElem? (i := 678) (by decide +kernel)⟩
theorem lw_p7 : lw_okq (⟨"EmptyHat$CrownReader", "newProvince", "()Z"⟩, 5) := ⟨⟨by decide +kernel, by decide +kernel⟩, List.mem_of_getElem? (i := 246) (by decide +kernel), List.mem_of_getElem? (i := 690) (by decide +kernel), List.mem_of_getElem? (i := 691) (by decide +kernel)⟩
theorem lw_p8 : lw_okq (⟨"EmptyHat$CrownReader", "newTrick", "()Z"⟩, 5) := ⟨⟨by decide +kernel, by decide +kernel⟩, List.mem_of_getElem? (i := 246) (by decide +kernel), List.mem_of_getElem? (i := 694) (by decide +kernel), List.mem_of_getElem? (i := 695) (by decide +kernel)⟩
theorem lw_p9 : lw_okq (⟨"EmptyHat$CrownReader", "newWatcher", "()Z"⟩, 5) := ⟨⟨by decide +kernel, by decide +kernel⟩, List.mem_of_getElem? (i := 246) (by decide +kernel), List.mem_of_getElem? (i := 698) (by decide +kernel), List.mem_of_getElem? (i := 699) (by decide +kernel)⟩
theorem lw_p10 : lw_okq (⟨"EmptyHat$CrownReader", "onlyOne", "()Z"⟩, 5) := ⟨⟨by decide +kernel, by decide +kernel⟩, List.mem_of_getElem? (i := 246) (by decide +kernel), List.mem_of_getElem? (i := 702) (by decide +kernel), List.mem_of_getElem? (i := 703) (by decide +kernel)⟩
theorem lw_p11 : lw_okq (⟨"EmptyHat$Reader", "aim", "(LEmptyHat$Formula;I)V"⟩, 3) := ⟨⟨by decide +kernel, by decide +kernel⟩, List.mem_of_getElem? (i := 252) (by decide +kernel), List.mem_of_getElem? (i := 711) (by decide +kernel), List.mem_of_getElem? (i := 712) (by decide +kernel)⟩
theorem lw_p12 : lw_okq (⟨"EmptyHat$Reader", "sum", "(I)Z"⟩, 3) := ⟨⟨by decide +kernel, by decide +kernel⟩, List.mem_of_getElem? (i := 252) (by decide +kernel), List.mem_of_getElem? (i := 716) (by decide +kernel), List.mem_of_getElem? (i := 717) (by decide +kernel)⟩
theorem lw_p13 : lw_okq (⟨"EmptyHat$Reader", "product", "(I)Z"⟩, 3) := ⟨⟨by decide +kernel, by decide +kernel⟩, List.mem_of_getElem? (i := 252) (by decide +kernel), List.mem_of_getElem? (i := 720) (by decide +kernel), List.mem_of_getElem? (i := 721) (by decide +kernel)⟩
theorem lw_p14 : lw_okq (⟨"EmptyHat$Reader", "part", "(I)Z"⟩, 3) := ⟨⟨by decide +kernel, by decide +kernel⟩, List.mem_of_getElem? (i := 252) (by decide +kernel), List.mem_of_getElem? (i := 724) (by decide +kernel), List.mem_of_getElem? (i := 725) (by decide +kernel)⟩
theorem lw_p15 : lw_okq (⟨"EmptyHat$Reader", "opens", "(I)Z"⟩, 3) := ⟨⟨by decide +kernel, by decide +kernel⟩, List.mem_of_getElem? (i := 252) (by decide +kernel), List.mem_of_getElem? (i := 731) (by decide +kernel), List.mem_of_getElem? (i := 732) (by decide +kernel)⟩
def lw_privs_1 : List (MethodName × Nat) := [(⟨"EmptyHat", "refuse", "(I)I"⟩, 17), (⟨"EmptyHat", "refuses", "(I)Z"⟩, 17), (⟨"EmptyHat$Text", "readWord", "()V"⟩, 11), (⟨"EmptyHat$Text", "readDigits", "()V"⟩, 11), (⟨"EmptyHat$CrownReader", "treasury", "()Z"⟩, 5), (⟨"EmptyHat$CrownReader", "statement", "()Z"⟩, 5), (⟨"EmptyHat$CrownReader", "oneMore", "(II)Z"⟩, 5), (⟨"EmptyHat$CrownReader", "newProvince", "()Z"⟩, 5), (⟨"EmptyHat$CrownReader", "newTrick", "()Z"⟩, 5), (⟨"EmptyHat$CrownReader", "newWatcher", "()Z"⟩, 5), (⟨"EmptyHat$CrownReader", "onlyOne", "()Z"⟩, 5), (⟨"EmptyHat$Reader", "aim", "(LEmptyHat$Formula;I)V"⟩, 3), (⟨"EmptyHat$Reader", "sum", "(I)Z"⟩, 3), (⟨"EmptyHat$Reader", "product", "(I)Z"⟩, 3), (⟨"EmptyHat$Reader", "part", "(I)Z"⟩, 3), (⟨"EmptyHat$Reader", "opens", "(I)Z"⟩, 3)]
theorem lw_r1 : ∀ q ∈ lw_privs_1, lw_okq q := List.forall_mem_cons.mpr ⟨lw_p0, List.forall_mem_cons.mpr ⟨lw_p1, List.forall_mem_cons.mpr ⟨lw_p2, List.forall_mem_cons.mpr ⟨lw_p3, List.forall_mem_cons.mpr ⟨lw_p4, List.forall_mem_cons.mpr ⟨lw_p5, List.forall_mem_cons.mpr ⟨lw_p6, List.forall_mem_cons.mpr ⟨lw_p7, List.forall_mem_cons.mpr ⟨lw_p8, List.forall_mem_cons.mpr ⟨lw_p9, List.forall_mem_cons.mpr ⟨lw_p10, List.forall_mem_cons.mpr ⟨lw_p11, List.forall_mem_cons.mpr ⟨lw_p12, List.forall_mem_cons.mpr ⟨lw_p13, List.forall_mem_cons.mpr ⟨lw_p14, List.forall_mem_cons.mpr ⟨lw_p15, fun _ h => absurd h List.not_mem_nil⟩⟩⟩⟩⟩⟩⟩⟩⟩⟩⟩⟩⟩⟩⟩⟩
theorem lw_p16 : lw_okq (⟨"EmptyHat$Reader", "oneOfTwo", "(I)Z"⟩, 3) := ⟨⟨by decide +kernel, by decide +kernel⟩, List.mem_of_getElem? (i := 252) (by decide +kernel), List.mem_of_getElem? (i := 739) (by decide +kernel), List.mem_of_getElem? (i := 740) (by decide +kernel)⟩
theorem lw_p17 : lw_okq (⟨"EmptyHat$Reader", "isPart", "()Z"⟩, 3) := ⟨⟨by decide +kernel, by decide +kernel⟩, List.mem_of_getElem? (i := 252) (by decide +kernel), List.mem_of_getElem? (i := 743) (by decide +kernel), List.mem_of_getElem? (i := 744) (by decide +kernel)⟩
theorem lw_p18 : lw_okq (⟨"EmptyHat$CrownReader", "beliefAtFirst", "()Z"⟩, 5) := ⟨⟨by decide +kernel, by decide +kernel⟩, List.mem_of_getElem? (i := 246) (by decide +kernel), List.mem_of_getElem? (i := 748) (by decide +kernel), List.mem_of_getElem? (i := 749) (by decide +kernel)⟩
theorem lw_p19 : lw_okq (⟨"EmptyHat$CrownReader", "boysOfHundred", "()Z"⟩, 5) := ⟨⟨by decide +kernel, by decide +kernel⟩, List.mem_of_getElem? (i := 246) (by decide +kernel), List.mem_of_getElem? (i := 752) (by decide +kernel), List.mem_of_getElem? (i := 753) (by decide +kernel)⟩
theorem lw_p20 : lw_okq (⟨"EmptyHat", "forgetPast", "()V"⟩, 17) := ⟨⟨by decide +kernel, by decide +kernel⟩, List.mem_of_getElem? (i := 23) (by decide +kernel), List.mem_of_getElem? (i := 768) (by decide +kernel), List.mem_of_getElem? (i := 769) (by decide +kernel)⟩
theorem lw_p21 : lw_okq (⟨"EmptyHat$Stage", "sightOfShow", "(I)I"⟩, 8) := ⟨⟨by decide +kernel, by decide +kernel⟩, List.mem_of_getElem? (i := 311) (by decide +kernel), List.mem_of_getElem? (i := 903) (by decide +kernel), List.mem_of_getElem? (i := 904) (by decide +kernel)⟩
theorem lw_p22 : lw_okq (⟨"EmptyHat$Stage", "isBetter", "(III)Z"⟩, 8) := ⟨⟨by decide +kernel, by decide +kernel⟩, List.mem_of_getElem? (i := 311) (by decide +kernel), List.mem_of_getElem? (i := 907) (by decide +kernel), List.mem_of_getElem? (i := 908) (by decide +kernel)⟩
theorem lw_p23 : lw_okq (⟨"EmptyHat", "canGive", "(I)Z"⟩, 17) := ⟨⟨by decide +kernel, by decide +kernel⟩, List.mem_of_getElem? (i := 23) (by decide +kernel), List.mem_of_getElem? (i := 916) (by decide +kernel), List.mem_of_getElem? (i := 917) (by decide +kernel)⟩
theorem lw_p24 : lw_okq (⟨"EmptyHat$Ahead", "note", "(I)V"⟩, 16) := ⟨⟨by decide +kernel, by decide +kernel⟩, List.mem_of_getElem? (i := 351) (by decide +kernel), List.mem_of_getElem? (i := 931) (by decide +kernel), List.mem_of_getElem? (i := 932) (by decide +kernel)⟩
theorem lw_p25 : lw_okq (⟨"EmptyHat$Stage", "loseBelief", "(LEmptyHat$State;I)V"⟩, 8) := ⟨⟨by decide +kernel, by decide +kernel⟩, List.mem_of_getElem? (i := 311) (by decide +kernel), List.mem_of_getElem? (i := 948) (by decide +kernel), List.mem_of_getElem? (i := 949) (by decide +kernel)⟩
theorem lw_p26 : lw_okq (⟨"EmptyHat$Stage", "pay", "(LEmptyHat$State;I)V"⟩, 8) := ⟨⟨by decide +kernel, by decide +kernel⟩, List.mem_of_getElem? (i := 311) (by decide +kernel), List.mem_of_getElem? (i := 956) (by decide +kernel), List.mem_of_getElem? (i := 957) (by decide +kernel)⟩
theorem lw_p27 : lw_okq (⟨"EmptyHat$Ahead", "lookAhead", "(I)V"⟩, 16) := ⟨⟨by decide +kernel, by decide +kernel⟩, List.mem_of_getElem? (i := 351) (by decide +kernel), List.mem_of_getElem? (i := 975) (by decide +kernel), List.mem_of_getElem? (i := 976) (by decide +kernel)⟩
theorem lw_p28 : lw_okq (⟨"EmptyHat$Ahead", "pairWith", "(I)V"⟩, 16) := ⟨⟨by decide +kernel, by decide +kernel⟩, List.mem_of_getElem? (i := 351) (by decide +kernel), List.mem_of_getElem? (i := 985) (by decide +kernel), List.mem_of_getElem? (i := 986) (by decide +kernel)⟩
theorem lw_p29 : lw_okq (⟨"EmptyHat", "findCounted", "()V"⟩, 17) := ⟨⟨by decide +kernel, by decide +kernel⟩, List.mem_of_getElem? (i := 23) (by decide +kernel), List.mem_of_getElem? (i := 1014) (by decide +kernel), List.mem_of_getElem? (i := 1015) (by decide +kernel)⟩
theorem lw_p30 : lw_okq (⟨"EmptyHat$Counted", "isSo", "()Z"⟩, 9) := ⟨⟨by decide +kernel, by decide +kernel⟩, List.mem_of_getElem? (i := 473) (by decide +kernel), List.mem_of_getElem? (i := 1024) (by decide +kernel), List.mem_of_getElem? (i := 1025) (by decide +kernel)⟩
theorem lw_p31 : lw_okq (⟨"EmptyHat$Counted", "addFitting", "(I)V"⟩, 9) := ⟨⟨by decide +kernel, by decide +kernel⟩, List.mem_of_getElem? (i := 473) (by decide +kernel), List.mem_of_getElem? (i := 1028) (by decide +kernel), List.mem_of_getElem? (i := 1029) (by decide +kernel)⟩
def lw_privs_2 : List (MethodName × Nat) := [(⟨"EmptyHat$Reader", "oneOfTwo", "(I)Z"⟩, 3), (⟨"EmptyHat$Reader", "isPart", "()Z"⟩, 3), (⟨"EmptyHat$CrownReader", "beliefAtFirst", "()Z"⟩, 5), (⟨"EmptyHat$CrownReader", "boysOfHundred", "()Z"⟩, 5), (⟨"EmptyHat", "forgetPast", "()V"⟩, 17), (⟨"EmptyHat$Stage", "sightOfShow", "(I)I"⟩, 8), (⟨"EmptyHat$Stage", "isBetter", "(III)Z"⟩, 8), (⟨"EmptyHat", "canGive", "(I)Z"⟩, 17), (⟨"EmptyHat$Ahead", "note", "(I)V"⟩, 16), (⟨"EmptyHat$Stage", "loseBelief", "(LEmptyHat$State;I)V"⟩, 8), (⟨"EmptyHat$Stage", "pay", "(LEmptyHat$State;I)V"⟩, 8), (⟨"EmptyHat$Ahead", "lookAhead", "(I)V"⟩, 16), (⟨"EmptyHat$Ahead", "pairWith", "(I)V"⟩, 16), (⟨"EmptyHat", "findCounted", "()V"⟩, 17), (⟨"EmptyHat$Counted", "isSo", "()Z"⟩, 9), (⟨"EmptyHat$Counted", "addFitting", "(I)V"⟩, 9)]
theorem lw_r2 : ∀ q ∈ lw_privs_2, lw_okq q := List.forall_mem_cons.mpr ⟨lw_p16, List.forall_mem_cons.mpr ⟨lw_p17, List.forall_mem_cons.mpr ⟨lw_p18, List.forall_mem_cons.mpr ⟨lw_p19, List.forall_mem_cons.mpr ⟨lw_p20, List.forall_mem_cons.mpr ⟨lw_p21, List.forall_mem_cons.mpr ⟨lw_p22, List.forall_mem_cons.mpr ⟨lw_p23, List.forall_mem_cons.mpr ⟨lw_p24, List.forall_mem_cons.mpr ⟨lw_p25, List.forall_mem_cons.mpr ⟨lw_p26, List.forall_mem_cons.mpr ⟨lw_p27, List.forall_mem_cons.mpr ⟨lw_p28, List.forall_mem_cons.mpr ⟨lw_p29, List.forall_mem_cons.mpr ⟨lw_p30, List.forall_mem_cons.mpr ⟨lw_p31, fun _ h => absurd h List.not_mem_nil⟩⟩⟩⟩⟩⟩⟩⟩⟩⟩⟩⟩⟩⟩⟩⟩
theorem lw_p32 : lw_okq (⟨"EmptyHat$Counted", "mostLeft", "([I)I"⟩, 9) := ⟨⟨by decide +kernel, by decide +kernel⟩, List.mem_of_getElem? (i := 473) (by decide +kernel), List.mem_of_getElem? (i := 1048) (by decide +kernel), List.mem_of_getElem? (i := 1049) (by decide +kernel)⟩
theorem lw_p33 : lw_okq (⟨"EmptyHat$Stage", "seenByAny", "(I)I"⟩, 8) := ⟨⟨by decide +kernel, by decide +kernel⟩, List.mem_of_getElem? (i := 311) (by decide +kernel), List.mem_of_getElem? (i := 1061) (by decide +kernel), List.mem_of_getElem? (i := 1062) (by decide +kernel)⟩
theorem lw_p34 : lw_okq (⟨"EmptyHat", "remember", "()V"⟩, 17) := ⟨⟨by decide +kernel, by decide +kernel⟩, List.mem_of_getElem? (i := 23) (by decide +kernel), List.mem_of_getElem? (i := 1073) (by decide +kernel), List.mem_of_getElem? (i := 1074) (by decide +kernel)⟩
theorem lw_p35 : lw_okq (⟨"EmptyHat", "canPass", "(I)Z"⟩, 17) := ⟨⟨by decide +kernel, by decide +kernel⟩, List.mem_of_getElem? (i := 23) (by decide +kernel), List.mem_of_getElem? (i := 1090) (by decide +kernel), List.mem_of_getElem? (i := 1091) (by decide +kernel)⟩
theorem lw_p36 : lw_okq (⟨"EmptyHat", "boyTells", "()Z"⟩, 17) := ⟨⟨by decide +kernel, by decide +kernel⟩, List.mem_of_getElem? (i := 23) (by decide +kernel), List.mem_of_getElem? (i := 1099) (by decide +kernel), List.mem_of_getElem? (i := 1100) (by decide +kernel)⟩
theorem lw_p37 : lw_okq (⟨"EmptyHat", "draw", "(I)I"⟩, 17) := ⟨⟨by decide +kernel, by decide +kernel⟩, List.mem_of_getElem? (i := 23) (by decide +kernel), List.mem_of_getElem? (i := 1103) (by decide +kernel), List.mem_of_getElem? (i := 1104) (by decide +kernel)⟩
theorem lw_p38 : lw_okq (⟨"EmptyHat$Reader", "test", "(I)Z"⟩, 3) := ⟨⟨by decide +kernel, by decide +kernel⟩, List.mem_of_getElem? (i := 252) (by decide +kernel), List.mem_of_getElem? (i := 1136) (by decide +kernel), List.mem_of_getElem? (i := 1137) (by decide +kernel)⟩
theorem lw_p39 : lw_okq (⟨"EmptyHat$Reader", "facts", "(I)Z"⟩, 3) := ⟨⟨by decide +kernel, by decide +kernel⟩, List.mem_of_getElem? (i := 252) (by decide +kernel), List.mem_of_getElem? (i := 1140) (by decide +kernel), List.mem_of_getElem? (i := 1141) (by decide +kernel)⟩
theorem lw_p40 : lw_okq (⟨"EmptyHat$Reader", "fact", "(I)Z"⟩, 3) := ⟨⟨by decide +kernel, by decide +kernel⟩, List.mem_of_getElem? (i := 252) (by decide +kernel), List.mem_of_getElem? (i := 1144) (by decide +kernel), List.mem_of_getElem? (i := 1145) (by decide +kernel)⟩
theorem lw_p41 : lw_okq (⟨"EmptyHat$Reader", "compared", "(I)Z"⟩, 3) := ⟨⟨by decide +kernel, by decide +kernel⟩, List.mem_of_getElem? (i := 252) (by decide +kernel), List.mem_of_getElem? (i := 1148) (by decide +kernel), List.mem_of_getElem? (i := 1149) (by decide +kernel)⟩
theorem lw_p42 : lw_okq (⟨"EmptyHat$Question", "with", "(JII)J"⟩, 5) := ⟨⟨by decide +kernel, by decide +kernel⟩, List.mem_of_getElem? (i := 285) (by decide +kernel), List.mem_of_getElem? (i := 1164) (by decide +kernel), List.mem_of_getElem? (i := 1165) (by decide +kernel)⟩
theorem lw_p43 : lw_okq (⟨"EmptyHat$Image", "put", "(II)V"⟩, 3) := ⟨⟨by decide +kernel, by decide +kernel⟩, List.mem_of_getElem? (i := 512) (by decide +kernel), List.mem_of_getElem? (i := 1178) (by decide +kernel), List.mem_of_getElem? (i := 1179) (by decide +kernel)⟩
theorem lw_p44 : lw_okq (⟨"EmptyHat$Image", "take", "(LEmptyHat$Text;I)I"⟩, 3) := ⟨⟨by decide +kernel, by decide +kernel⟩, List.mem_of_getElem? (i := 512) (by decide +kernel), List.mem_of_getElem? (i := 1198) (by decide +kernel), List.mem_of_getElem? (i := 1199) (by decide +kernel)⟩
theorem lw_p45 : lw_okq (⟨"EmptyHatModel", "chestTold", "()V"⟩, 111) := ⟨⟨by decide +kernel, by decide +kernel⟩, List.mem_of_getElem? (i := 1211) (by decide +kernel), List.mem_of_getElem? (i := 1566) (by decide +kernel), List.mem_of_getElem? (i := 1567) (by decide +kernel)⟩
theorem lw_p46 : lw_okq (⟨"EmptyHatModel", "asks", "([C)V"⟩, 111) := ⟨⟨by decide +kernel, by decide +kernel⟩, List.mem_of_getElem? (i := 1211) (by decide +kernel), List.mem_of_getElem? (i := 1570) (by decide +kernel), List.mem_of_getElem? (i := 1571) (by decide +kernel)⟩
theorem lw_p47 : lw_okq (⟨"EmptyHatModel", "takes", "([C)Z"⟩, 111) := ⟨⟨by decide +kernel, by decide +kernel⟩, List.mem_of_getElem? (i := 1211) (by decide +kernel), List.mem_of_getElem? (i := 1574) (by decide +kernel), List.mem_of_getElem? (i := 1575) (by decide +kernel)⟩
def lw_privs_3 : List (MethodName × Nat) := [(⟨"EmptyHat$Counted", "mostLeft", "([I)I"⟩, 9), (⟨"EmptyHat$Stage", "seenByAny", "(I)I"⟩, 8), (⟨"EmptyHat", "remember", "()V"⟩, 17), (⟨"EmptyHat", "canPass", "(I)Z"⟩, 17), (⟨"EmptyHat", "boyTells", "()Z"⟩, 17), (⟨"EmptyHat", "draw", "(I)I"⟩, 17), (⟨"EmptyHat$Reader", "test", "(I)Z"⟩, 3), (⟨"EmptyHat$Reader", "facts", "(I)Z"⟩, 3), (⟨"EmptyHat$Reader", "fact", "(I)Z"⟩, 3), (⟨"EmptyHat$Reader", "compared", "(I)Z"⟩, 3), (⟨"EmptyHat$Question", "with", "(JII)J"⟩, 5), (⟨"EmptyHat$Image", "put", "(II)V"⟩, 3), (⟨"EmptyHat$Image", "take", "(LEmptyHat$Text;I)I"⟩, 3), (⟨"EmptyHatModel", "chestTold", "()V"⟩, 111), (⟨"EmptyHatModel", "asks", "([C)V"⟩, 111), (⟨"EmptyHatModel", "takes", "([C)Z"⟩, 111)]
theorem lw_r3 : ∀ q ∈ lw_privs_3, lw_okq q := List.forall_mem_cons.mpr ⟨lw_p32, List.forall_mem_cons.mpr ⟨lw_p33, List.forall_mem_cons.mpr ⟨lw_p34, List.forall_mem_cons.mpr ⟨lw_p35, List.forall_mem_cons.mpr ⟨lw_p36, List.forall_mem_cons.mpr ⟨lw_p37, List.forall_mem_cons.mpr ⟨lw_p38, List.forall_mem_cons.mpr ⟨lw_p39, List.forall_mem_cons.mpr ⟨lw_p40, List.forall_mem_cons.mpr ⟨lw_p41, List.forall_mem_cons.mpr ⟨lw_p42, List.forall_mem_cons.mpr ⟨lw_p43, List.forall_mem_cons.mpr ⟨lw_p44, List.forall_mem_cons.mpr ⟨lw_p45, List.forall_mem_cons.mpr ⟨lw_p46, List.forall_mem_cons.mpr ⟨lw_p47, fun _ h => absurd h List.not_mem_nil⟩⟩⟩⟩⟩⟩⟩⟩⟩⟩⟩⟩⟩⟩⟩⟩
theorem lw_p48 : lw_okq (⟨"EmptyHatModel", "isHere", "([C)Z"⟩, 111) := ⟨⟨by decide +kernel, by decide +kernel⟩, List.mem_of_getElem? (i := 1211) (by decide +kernel), List.mem_of_getElem? (i := 1578) (by decide +kernel), List.mem_of_getElem? (i := 1579) (by decide +kernel)⟩
theorem lw_p49 : lw_okq (⟨"EmptyHatModel", "look0", "()I"⟩, 111) := ⟨⟨by decide +kernel, by decide +kernel⟩, List.mem_of_getElem? (i := 1211) (by decide +kernel), List.mem_of_getElem? (i := 1582) (by decide +kernel), List.mem_of_getElem? (i := 1583) (by decide +kernel)⟩
theorem lw_p50 : lw_okq (⟨"EmptyHatModel", "fail", "(II)V"⟩, 111) := ⟨⟨by decide +kernel, by decide +kernel⟩, List.mem_of_getElem? (i := 1211) (by decide +kernel), List.mem_of_getElem? (i := 1589) (by decide +kernel), List.mem_of_getElem? (i := 1590) (by decide +kernel)⟩
theorem lw_p51 : lw_okq (⟨"EmptyHatModel", "number", "(II)I"⟩, 111) := ⟨⟨by decide +kernel, by decide +kernel⟩, List.mem_of_getElem? (i := 1211) (by decide +kernel), List.mem_of_getElem? (i := 1593) (by decide +kernel), List.mem_of_getElem? (i := 1594) (by decide +kernel)⟩
theorem lw_p52 : lw_okq (⟨"EmptyHatModel", "asksSign", "(I)V"⟩, 111) := ⟨⟨by decide +kernel, by decide +kernel⟩, List.mem_of_getElem? (i := 1211) (by decide +kernel), List.mem_of_getElem? (i := 1603) (by decide +kernel), List.mem_of_getElem? (i := 1604) (by decide +kernel)⟩
theorem lw_p53 : lw_okq (⟨"EmptyHatModel", "takesSign", "(I)Z"⟩, 111) := ⟨⟨by decide +kernel, by decide +kernel⟩, List.mem_of_getElem? (i := 1211) (by decide +kernel), List.mem_of_getElem? (i := 1607) (by decide +kernel), List.mem_of_getElem? (i := 1608) (by decide +kernel)⟩
theorem lw_p54 : lw_okq (⟨"EmptyHatModel", "statementTold", "()V"⟩, 111) := ⟨⟨by decide +kernel, by decide +kernel⟩, List.mem_of_getElem? (i := 1211) (by decide +kernel), List.mem_of_getElem? (i := 1611) (by decide +kernel), List.mem_of_getElem? (i := 1612) (by decide +kernel)⟩
theorem lw_p55 : lw_okq (⟨"EmptyHatModel", "provinceTold", "(I)V"⟩, 111) := ⟨⟨by decide +kernel, by decide +kernel⟩, List.mem_of_getElem? (i := 1211) (by decide +kernel), List.mem_of_getElem? (i := 1615) (by decide +kernel), List.mem_of_getElem? (i := 1616) (by decide +kernel)⟩
theorem lw_p56 : lw_okq (⟨"EmptyHatModel", "isFull", "(III)Z"⟩, 111) := ⟨⟨by decide +kernel, by decide +kernel⟩, List.mem_of_getElem? (i := 1211) (by decide +kernel), List.mem_of_getElem? (i := 1619) (by decide +kernel), List.mem_of_getElem? (i := 1620) (by decide +kernel)⟩
theorem lw_p57 : lw_okq (⟨"EmptyHatModel", "newName", "()J"⟩, 111) := ⟨⟨by decide +kernel, by decide +kernel⟩, List.mem_of_getElem? (i := 1211) (by decide +kernel), List.mem_of_getElem? (i := 1623) (by decide +kernel), List.mem_of_getElem? (i := 1624) (by decide +kernel)⟩
theorem lw_p58 : lw_okq (⟨"EmptyHatModel", "name", "()J"⟩, 111) := ⟨⟨by decide +kernel, by decide +kernel⟩, List.mem_of_getElem? (i := 1211) (by decide +kernel), List.mem_of_getElem? (i := 1627) (by decide +kernel), List.mem_of_getElem? (i := 1628) (by decide +kernel)⟩
theorem lw_p59 : lw_okq (⟨"EmptyHatModel", "isOwnHere", "()Z"⟩, 111) := ⟨⟨by decide +kernel, by decide +kernel⟩, List.mem_of_getElem? (i := 1211) (by decide +kernel), List.mem_of_getElem? (i := 1631) (by decide +kernel), List.mem_of_getElem? (i := 1632) (by decide +kernel)⟩
theorem lw_p60 : lw_okq (⟨"EmptyHatModel", "nameOf", "(IJ)I"⟩, 111) := ⟨⟨by decide +kernel, by decide +kernel⟩, List.mem_of_getElem? (i := 1211) (by decide +kernel), List.mem_of_getElem? (i := 1637) (by decide +kernel), List.mem_of_getElem? (i := 1638) (by decide +kernel)⟩
theorem lw_p61 : lw_okq (⟨"EmptyHatModel", "adds", "(IJ)I"⟩, 111) := ⟨⟨by decide +kernel, by decide +kernel⟩, List.mem_of_getElem? (i := 1211) (by decide +kernel), List.mem_of_getElem? (i := 1641) (by decide +kernel), List.mem_of_getElem? (i := 1642) (by decide +kernel)⟩
theorem lw_p62 : lw_okq (⟨"EmptyHatModel", "trickTold", "(I)V"⟩, 111) := ⟨⟨by decide +kernel, by decide +kernel⟩, List.mem_of_getElem? (i := 1211) (by decide +kernel), List.mem_of_getElem? (i := 1645) (by decide +kernel), List.mem_of_getElem? (i := 1646) (by decide +kernel)⟩
theorem lw_p63 : lw_okq (⟨"EmptyHatModel", "watcherTold", "(I)V"⟩, 111) := ⟨⟨by decide +kernel, by decide +kernel⟩, List.mem_of_getElem? (i := 1211) (by decide +kernel), List.mem_of_getElem? (i := 1649) (by decide +kernel), List.mem_of_getElem? (i := 1650) (by decide +kernel)⟩
def lw_privs_4 : List (MethodName × Nat) := [(⟨"EmptyHatModel", "isHere", "([C)Z"⟩, 111), (⟨"EmptyHatModel", "look0", "()I"⟩, 111), (⟨"EmptyHatModel", "fail", "(II)V"⟩, 111), (⟨"EmptyHatModel", "number", "(II)I"⟩, 111), (⟨"EmptyHatModel", "asksSign", "(I)V"⟩, 111), (⟨"EmptyHatModel", "takesSign", "(I)Z"⟩, 111), (⟨"EmptyHatModel", "statementTold", "()V"⟩, 111), (⟨"EmptyHatModel", "provinceTold", "(I)V"⟩, 111), (⟨"EmptyHatModel", "isFull", "(III)Z"⟩, 111), (⟨"EmptyHatModel", "newName", "()J"⟩, 111), (⟨"EmptyHatModel", "name", "()J"⟩, 111), (⟨"EmptyHatModel", "isOwnHere", "()Z"⟩, 111), (⟨"EmptyHatModel", "nameOf", "(IJ)I"⟩, 111), (⟨"EmptyHatModel", "adds", "(IJ)I"⟩, 111), (⟨"EmptyHatModel", "trickTold", "(I)V"⟩, 111), (⟨"EmptyHatModel", "watcherTold", "(I)V"⟩, 111)]
theorem lw_r4 : ∀ q ∈ lw_privs_4, lw_okq q := List.forall_mem_cons.mpr ⟨lw_p48, List.forall_mem_cons.mpr ⟨lw_p49, List.forall_mem_cons.mpr ⟨lw_p50, List.forall_mem_cons.mpr ⟨lw_p51, List.forall_mem_cons.mpr ⟨lw_p52, List.forall_mem_cons.mpr ⟨lw_p53, List.forall_mem_cons.mpr ⟨lw_p54, List.forall_mem_cons.mpr ⟨lw_p55, List.forall_mem_cons.mpr ⟨lw_p56, List.forall_mem_cons.mpr ⟨lw_p57, List.forall_mem_cons.mpr ⟨lw_p58, List.forall_mem_cons.mpr ⟨lw_p59, List.forall_mem_cons.mpr ⟨lw_p60, List.forall_mem_cons.mpr ⟨lw_p61, List.forall_mem_cons.mpr ⟨lw_p62, List.forall_mem_cons.mpr ⟨lw_p63, fun _ h => absurd h List.not_mem_nil⟩⟩⟩⟩⟩⟩⟩⟩⟩⟩⟩⟩⟩⟩⟩⟩
theorem lw_p64 : lw_okq (⟨"EmptyHatModel", "codesTold", "(II)V"⟩, 111) := ⟨⟨by decide +kernel, by decide +kernel⟩, List.mem_of_getElem? (i := 1211) (by decide +kernel), List.mem_of_getElem? (i := 1653) (by decide +kernel), List.mem_of_getElem? (i := 1654) (by decide +kernel)⟩
theorem lw_p65 : lw_okq (⟨"EmptyHatModel", "qSums", "()V"⟩, 111) := ⟨⟨by decide +kernel, by decide +kernel⟩, List.mem_of_getElem? (i := 1211) (by decide +kernel), List.mem_of_getElem? (i := 1657) (by decide +kernel), List.mem_of_getElem? (i := 1658) (by decide +kernel)⟩
theorem lw_p66 : lw_okq (⟨"EmptyHatModel", "qPartTold", "()V"⟩, 111) := ⟨⟨by decide +kernel, by decide +kernel⟩, List.mem_of_getElem? (i := 1211) (by decide +kernel), List.mem_of_getElem? (i := 1661) (by decide +kernel), List.mem_of_getElem? (i := 1662) (by decide +kernel)⟩
theorem lw_p67 : lw_okq (⟨"EmptyHatModel", "qWordOf", "(II)I"⟩, 111) := ⟨⟨by decide +kernel, by decide +kernel⟩, List.mem_of_getElem? (i := 1211) (by decide +kernel), List.mem_of_getElem? (i := 1665) (by decide +kernel), List.mem_of_getElem? (i := 1666) (by decide +kernel)⟩
theorem lw_p68 : lw_okq (⟨"EmptyHatModel", "qWordHere", "()I"⟩, 111) := ⟨⟨by decide +kernel, by decide +kernel⟩, List.mem_of_getElem? (i := 1211) (by decide +kernel), List.mem_of_getElem? (i := 1669) (by decide +kernel), List.mem_of_getElem? (i := 1670) (by decide +kernel)⟩
theorem lw_p69 : lw_okq (⟨"EmptyHatModel", "isAllowed", "(I)Z"⟩, 111) := ⟨⟨by decide +kernel, by decide +kernel⟩, List.mem_of_getElem? (i := 1211) (by decide +kernel), List.mem_of_getElem? (i := 1673) (by decide +kernel), List.mem_of_getElem? (i := 1674) (by decide +kernel)⟩
theorem lw_p70 : lw_okq (⟨"EmptyHatModel", "qOpens", "(II)V"⟩, 111) := ⟨⟨by decide +kernel, by decide +kernel⟩, List.mem_of_getElem? (i := 1211) (by decide +kernel), List.mem_of_getElem? (i := 1677) (by decide +kernel), List.mem_of_getElem? (i := 1678) (by decide +kernel)⟩
theorem lw_p71 : lw_okq (⟨"EmptyHatModel", "qAsksWord", "(I)V"⟩, 111) := ⟨⟨by decide +kernel, by decide +kernel⟩, List.mem_of_getElem? (i := 1211) (by decide +kernel), List.mem_of_getElem? (i := 1681) (by decide +kernel), List.mem_of_getElem? (i := 1682) (by decide +kernel)⟩
theorem lw_p72 : lw_okq (⟨"EmptyHatModel", "qCode", "(I)V"⟩, 111) := ⟨⟨by decide +kernel, by decide +kernel⟩, List.mem_of_getElem? (i := 1211) (by decide +kernel), List.mem_of_getElem? (i := 1685) (by decide +kernel), List.mem_of_getElem? (i := 1686) (by decide +kernel)⟩
theorem lw_p73 : lw_okq (⟨"EmptyHatModel", "qEndsPart", "()V"⟩, 111) := ⟨⟨by decide +kernel, by decide +kernel⟩, List.mem_of_getElem? (i := 1211) (by decide +kernel), List.mem_of_getElem? (i := 1689) (by decide +kernel), List.mem_of_getElem? (i := 1690) (by decide +kernel)⟩
theorem lw_p74 : lw_okq (⟨"EmptyHatModel", "qDrops", "()V"⟩, 111) := ⟨⟨by decide +kernel, by decide +kernel⟩, List.mem_of_getElem? (i := 1211) (by decide +kernel), List.mem_of_getElem? (i := 1693) (by decide +kernel), List.mem_of_getElem? (i := 1694) (by decide +kernel)⟩
theorem lw_p75 : lw_okq (⟨"EmptyHatModel", "qGoesOn", "()Z"⟩, 111) := ⟨⟨by decide +kernel, by decide +kernel⟩, List.mem_of_getElem? (i := 1211) (by decide +kernel), List.mem_of_getElem? (i := 1697) (by decide +kernel), List.mem_of_getElem? (i := 1698) (by decide +kernel)⟩
theorem lw_p76 : lw_okq (⟨"EmptyHatModel", "qBracket", "()I"⟩, 111) := ⟨⟨by decide +kernel, by decide +kernel⟩, List.mem_of_getElem? (i := 1211) (by decide +kernel), List.mem_of_getElem? (i := 1701) (by decide +kernel), List.mem_of_getElem? (i := 1702) (by decide +kernel)⟩
theorem lw_p77 : lw_okq (⟨"EmptyHatModel", "qDropsToBracket", "()V"⟩, 111) := ⟨⟨by decide +kernel, by decide +kernel⟩, List.mem_of_getElem? (i := 1211) (by decide +kernel), List.mem_of_getElem? (i := 1708) (by decide +kernel), List.mem_of_getElem? (i := 1709) (by decide +kernel)⟩
theorem lw_p78 : lw_okq (⟨"EmptyHatModel", "qIsOn", "(I)Z"⟩, 111) := ⟨⟨by decide +kernel, by decide +kernel⟩, List.mem_of_getElem? (i := 1211) (by decide +kernel), List.mem_of_getElem? (i := 1712) (by decide +kernel), List.mem_of_getElem? (i := 1713) (by decide +kernel)⟩
theorem lw_p79 : lw_okq (⟨"EmptyHatModel", "stands", "()V"⟩, 111) := ⟨⟨by decide +kernel, by decide +kernel⟩, List.mem_of_getElem? (i := 1211) (by decide +kernel), List.mem_of_getElem? (i := 1716) (by decide +kernel), List.mem_of_getElem? (i := 1717) (by decide +kernel)⟩
def lw_privs_5 : List (MethodName × Nat) := [(⟨"EmptyHatModel", "codesTold", "(II)V"⟩, 111), (⟨"EmptyHatModel", "qSums", "()V"⟩, 111), (⟨"EmptyHatModel", "qPartTold", "()V"⟩, 111), (⟨"EmptyHatModel", "qWordOf", "(II)I"⟩, 111), (⟨"EmptyHatModel", "qWordHere", "()I"⟩, 111), (⟨"EmptyHatModel", "isAllowed", "(I)Z"⟩, 111), (⟨"EmptyHatModel", "qOpens", "(II)V"⟩, 111), (⟨"EmptyHatModel", "qAsksWord", "(I)V"⟩, 111), (⟨"EmptyHatModel", "qCode", "(I)V"⟩, 111), (⟨"EmptyHatModel", "qEndsPart", "()V"⟩, 111), (⟨"EmptyHatModel", "qDrops", "()V"⟩, 111), (⟨"EmptyHatModel", "qGoesOn", "()Z"⟩, 111), (⟨"EmptyHatModel", "qBracket", "()I"⟩, 111), (⟨"EmptyHatModel", "qDropsToBracket", "()V"⟩, 111), (⟨"EmptyHatModel", "qIsOn", "(I)Z"⟩, 111), (⟨"EmptyHatModel", "stands", "()V"⟩, 111)]
theorem lw_r5 : ∀ q ∈ lw_privs_5, lw_okq q := List.forall_mem_cons.mpr ⟨lw_p64, List.forall_mem_cons.mpr ⟨lw_p65, List.forall_mem_cons.mpr ⟨lw_p66, List.forall_mem_cons.mpr ⟨lw_p67, List.forall_mem_cons.mpr ⟨lw_p68, List.forall_mem_cons.mpr ⟨lw_p69, List.forall_mem_cons.mpr ⟨lw_p70, List.forall_mem_cons.mpr ⟨lw_p71, List.forall_mem_cons.mpr ⟨lw_p72, List.forall_mem_cons.mpr ⟨lw_p73, List.forall_mem_cons.mpr ⟨lw_p74, List.forall_mem_cons.mpr ⟨lw_p75, List.forall_mem_cons.mpr ⟨lw_p76, List.forall_mem_cons.mpr ⟨lw_p77, List.forall_mem_cons.mpr ⟨lw_p78, List.forall_mem_cons.mpr ⟨lw_p79, fun _ h => absurd h List.not_mem_nil⟩⟩⟩⟩⟩⟩⟩⟩⟩⟩⟩⟩⟩⟩⟩⟩
theorem lw_p80 : lw_okq (⟨"EmptyHatModel", "throughSet", "()I"⟩, 111) := ⟨⟨by decide +kernel, by decide +kernel⟩, List.mem_of_getElem? (i := 1211) (by decide +kernel), List.mem_of_getElem? (i := 1728) (by decide +kernel), List.mem_of_getElem? (i := 1729) (by decide +kernel)⟩
theorem lw_p81 : lw_okq (⟨"EmptyHatModel", "trickMany", "()I"⟩, 111) := ⟨⟨by decide +kernel, by decide +kernel⟩, List.mem_of_getElem? (i := 1211) (by decide +kernel), List.mem_of_getElem? (i := 1732) (by decide +kernel), List.mem_of_getElem? (i := 1733) (by decide +kernel)⟩
theorem lw_p82 : lw_okq (⟨"EmptyHatModel", "knownOf", "(I)I"⟩, 111) := ⟨⟨by decide +kernel, by decide +kernel⟩, List.mem_of_getElem? (i := 1211) (by decide +kernel), List.mem_of_getElem? (i := 1736) (by decide +kernel), List.mem_of_getElem? (i := 1737) (by decide +kernel)⟩
theorem lw_p83 : lw_okq (⟨"EmptyHatModel", "storesAll", "()I"⟩, 111) := ⟨⟨by decide +kernel, by decide +kernel⟩, List.mem_of_getElem? (i := 1211) (by decide +kernel), List.mem_of_getElem? (i := 1743) (by decide +kernel), List.mem_of_getElem? (i := 1744) (by decide +kernel)⟩
theorem lw_p84 : lw_okq (⟨"EmptyHatModel", "provinceMany", "()I"⟩, 111) := ⟨⟨by decide +kernel, by decide +kernel⟩, List.mem_of_getElem? (i := 1211) (by decide +kernel), List.mem_of_getElem? (i := 1747) (by decide +kernel), List.mem_of_getElem? (i := 1748) (by decide +kernel)⟩
theorem lw_p85 : lw_okq (⟨"EmptyHatModel", "isProvince", "(I)Z"⟩, 111) := ⟨⟨by decide +kernel, by decide +kernel⟩, List.mem_of_getElem? (i := 1211) (by decide +kernel), List.mem_of_getElem? (i := 1761) (by decide +kernel), List.mem_of_getElem? (i := 1762) (by decide +kernel)⟩
theorem lw_p86 : lw_okq (⟨"EmptyHatModel", "isTrick", "(I)Z"⟩, 111) := ⟨⟨by decide +kernel, by decide +kernel⟩, List.mem_of_getElem? (i := 1211) (by decide +kernel), List.mem_of_getElem? (i := 1769) (by decide +kernel), List.mem_of_getElem? (i := 1770) (by decide +kernel)⟩
theorem lw_p87 : lw_okq (⟨"EmptyHatModel", "timesOf", "(I)I"⟩, 111) := ⟨⟨by decide +kernel, by decide +kernel⟩, List.mem_of_getElem? (i := 1211) (by decide +kernel), List.mem_of_getElem? (i := 1773) (by decide +kernel), List.mem_of_getElem? (i := 1774) (by decide +kernel)⟩
theorem lw_p88 : lw_okq (⟨"EmptyHatModel", "sightOf", "(I)I"⟩, 111) := ⟨⟨by decide +kernel, by decide +kernel⟩, List.mem_of_getElem? (i := 1211) (by decide +kernel), List.mem_of_getElem? (i := 1777) (by decide +kernel), List.mem_of_getElem? (i := 1778) (by decide +kernel)⟩
theorem lw_p89 : lw_okq (⟨"EmptyHatModel", "watcherMany", "()I"⟩, 111) := ⟨⟨by decide +kernel, by decide +kernel⟩, List.mem_of_getElem? (i := 1211) (by decide +kernel), List.mem_of_getElem? (i := 1781) (by decide +kernel), List.mem_of_getElem? (i := 1782) (by decide +kernel)⟩
theorem lw_p90 : lw_okq (⟨"EmptyHatModel", "seatOf", "(I)I"⟩, 111) := ⟨⟨by decide +kernel, by decide +kernel⟩, List.mem_of_getElem? (i := 1211) (by decide +kernel), List.mem_of_getElem? (i := 1785) (by decide +kernel), List.mem_of_getElem? (i := 1786) (by decide +kernel)⟩
theorem lw_p91 : lw_okq (⟨"EmptyHatModel", "sightBy", "(III)I"⟩, 111) := ⟨⟨by decide +kernel, by decide +kernel⟩, List.mem_of_getElem? (i := 1211) (by decide +kernel), List.mem_of_getElem? (i := 1789) (by decide +kernel), List.mem_of_getElem? (i := 1790) (by decide +kernel)⟩
theorem lw_p92 : lw_okq (⟨"EmptyHatModel", "codesTell", "(II)J"⟩, 111) := ⟨⟨by decide +kernel, by decide +kernel⟩, List.mem_of_getElem? (i := 1211) (by decide +kernel), List.mem_of_getElem? (i := 1793) (by decide +kernel), List.mem_of_getElem? (i := 1794) (by decide +kernel)⟩
theorem lw_p93 : lw_okq (⟨"EmptyHatModel", "qPuts", "(J)V"⟩, 111) := ⟨⟨by decide +kernel, by decide +kernel⟩, List.mem_of_getElem? (i := 1211) (by decide +kernel), List.mem_of_getElem? (i := 1797) (by decide +kernel), List.mem_of_getElem? (i := 1798) (by decide +kernel)⟩
theorem lw_p94 : lw_okq (⟨"EmptyHatModel", "qPartOf", "(II)J"⟩, 111) := ⟨⟨by decide +kernel, by decide +kernel⟩, List.mem_of_getElem? (i := 1211) (by decide +kernel), List.mem_of_getElem? (i := 1801) (by decide +kernel), List.mem_of_getElem? (i := 1802) (by decide +kernel)⟩
theorem lw_p95 : lw_okq (⟨"EmptyHatModel", "qJoins", "(I)V"⟩, 111) := ⟨⟨by decide +kernel, by decide +kernel⟩, List.mem_of_getElem? (i := 1211) (by decide +kernel), List.mem_of_getElem? (i := 1805) (by decide +kernel), List.mem_of_getElem? (i := 1806) (by decide +kernel)⟩
def lw_privs_6 : List (MethodName × Nat) := [(⟨"EmptyHatModel", "throughSet", "()I"⟩, 111), (⟨"EmptyHatModel", "trickMany", "()I"⟩, 111), (⟨"EmptyHatModel", "knownOf", "(I)I"⟩, 111), (⟨"EmptyHatModel", "storesAll", "()I"⟩, 111), (⟨"EmptyHatModel", "provinceMany", "()I"⟩, 111), (⟨"EmptyHatModel", "isProvince", "(I)Z"⟩, 111), (⟨"EmptyHatModel", "isTrick", "(I)Z"⟩, 111), (⟨"EmptyHatModel", "timesOf", "(I)I"⟩, 111), (⟨"EmptyHatModel", "sightOf", "(I)I"⟩, 111), (⟨"EmptyHatModel", "watcherMany", "()I"⟩, 111), (⟨"EmptyHatModel", "seatOf", "(I)I"⟩, 111), (⟨"EmptyHatModel", "sightBy", "(III)I"⟩, 111), (⟨"EmptyHatModel", "codesTell", "(II)J"⟩, 111), (⟨"EmptyHatModel", "qPuts", "(J)V"⟩, 111), (⟨"EmptyHatModel", "qPartOf", "(II)J"⟩, 111), (⟨"EmptyHatModel", "qJoins", "(I)V"⟩, 111)]
theorem lw_r6 : ∀ q ∈ lw_privs_6, lw_okq q := List.forall_mem_cons.mpr ⟨lw_p80, List.forall_mem_cons.mpr ⟨lw_p81, List.forall_mem_cons.mpr ⟨lw_p82, List.forall_mem_cons.mpr ⟨lw_p83, List.forall_mem_cons.mpr ⟨lw_p84, List.forall_mem_cons.mpr ⟨lw_p85, List.forall_mem_cons.mpr ⟨lw_p86, List.forall_mem_cons.mpr ⟨lw_p87, List.forall_mem_cons.mpr ⟨lw_p88, List.forall_mem_cons.mpr ⟨lw_p89, List.forall_mem_cons.mpr ⟨lw_p90, List.forall_mem_cons.mpr ⟨lw_p91, List.forall_mem_cons.mpr ⟨lw_p92, List.forall_mem_cons.mpr ⟨lw_p93, List.forall_mem_cons.mpr ⟨lw_p94, List.forall_mem_cons.mpr ⟨lw_p95, fun _ h => absurd h List.not_mem_nil⟩⟩⟩⟩⟩⟩⟩⟩⟩⟩⟩⟩⟩⟩⟩⟩
theorem lw_p96 : lw_okq (⟨"EmptyHatModel", "isWatcher", "(I)Z"⟩, 111) := ⟨⟨by decide +kernel, by decide +kernel⟩, List.mem_of_getElem? (i := 1211) (by decide +kernel), List.mem_of_getElem? (i := 1822) (by decide +kernel), List.mem_of_getElem? (i := 1823) (by decide +kernel)⟩
theorem lw_p97 : lw_okq (⟨"EmptyHatModel", "sightAll", "(II)I"⟩, 111) := ⟨⟨by decide +kernel, by decide +kernel⟩, List.mem_of_getElem? (i := 1211) (by decide +kernel), List.mem_of_getElem? (i := 1826) (by decide +kernel), List.mem_of_getElem? (i := 1827) (by decide +kernel)⟩
theorem lw_p98 : lw_okq (⟨"EmptyHatModel", "yieldsComeNow", "()V"⟩, 111) := ⟨⟨by decide +kernel, by decide +kernel⟩, List.mem_of_getElem? (i := 1211) (by decide +kernel), List.mem_of_getElem? (i := 1842) (by decide +kernel), List.mem_of_getElem? (i := 1843) (by decide +kernel)⟩
theorem lw_p99 : lw_okq (⟨"EmptyHatModel", "yieldsCome", "()V"⟩, 111) := ⟨⟨by decide +kernel, by decide +kernel⟩, List.mem_of_getElem? (i := 1211) (by decide +kernel), List.mem_of_getElem? (i := 1846) (by decide +kernel), List.mem_of_getElem? (i := 1847) (by decide +kernel)⟩
theorem lw_p100 : lw_okq (⟨"EmptyHatModel", "bestShow", "()I"⟩, 111) := ⟨⟨by decide +kernel, by decide +kernel⟩, List.mem_of_getElem? (i := 1211) (by decide +kernel), List.mem_of_getElem? (i := 1850) (by decide +kernel), List.mem_of_getElem? (i := 1851) (by decide +kernel)⟩
theorem lw_p101 : lw_okq (⟨"EmptyHatModel", "laysSights", "()V"⟩, 111) := ⟨⟨by decide +kernel, by decide +kernel⟩, List.mem_of_getElem? (i := 1211) (by decide +kernel), List.mem_of_getElem? (i := 1854) (by decide +kernel), List.mem_of_getElem? (i := 1855) (by decide +kernel)⟩
theorem lw_p102 : lw_okq (⟨"EmptyHatModel", "allTricks", "()I"⟩, 111) := ⟨⟨by decide +kernel, by decide +kernel⟩, List.mem_of_getElem? (i := 1211) (by decide +kernel), List.mem_of_getElem? (i := 1858) (by decide +kernel), List.mem_of_getElem? (i := 1859) (by decide +kernel)⟩
theorem lw_p103 : lw_okq (⟨"EmptyHatModel", "canShow", "(I)Z"⟩, 111) := ⟨⟨by decide +kernel, by decide +kernel⟩, List.mem_of_getElem? (i := 1211) (by decide +kernel), List.mem_of_getElem? (i := 1862) (by decide +kernel), List.mem_of_getElem? (i := 1863) (by decide +kernel)⟩
theorem lw_p104 : lw_okq (⟨"EmptyHatModel", "isBetter", "(II)Z"⟩, 111) := ⟨⟨by decide +kernel, by decide +kernel⟩, List.mem_of_getElem? (i := 1211) (by decide +kernel), List.mem_of_getElem? (i := 1866) (by decide +kernel), List.mem_of_getElem? (i := 1867) (by decide +kernel)⟩
theorem lw_p105 : lw_okq (⟨"EmptyHatModel", "appearsBy", "(I)I"⟩, 111) := ⟨⟨by decide +kernel, by decide +kernel⟩, List.mem_of_getElem? (i := 1211) (by decide +kernel), List.mem_of_getElem? (i := 1870) (by decide +kernel), List.mem_of_getElem? (i := 1871) (by decide +kernel)⟩
theorem lw_p106 : lw_okq (⟨"EmptyHatModel", "sightBySet", "(I)I"⟩, 111) := ⟨⟨by decide +kernel, by decide +kernel⟩, List.mem_of_getElem? (i := 1211) (by decide +kernel), List.mem_of_getElem? (i := 1874) (by decide +kernel), List.mem_of_getElem? (i := 1875) (by decide +kernel)⟩
theorem lw_p107 : lw_okq (⟨"EmptyHatModel", "yieldsGoBack", "()V"⟩, 111) := ⟨⟨by decide +kernel, by decide +kernel⟩, List.mem_of_getElem? (i := 1211) (by decide +kernel), List.mem_of_getElem? (i := 1878) (by decide +kernel), List.mem_of_getElem? (i := 1879) (by decide +kernel)⟩
theorem lw_p108 : lw_okq (⟨"EmptyHatModel", "isAhead", "(III)Z"⟩, 111) := ⟨⟨by decide +kernel, by decide +kernel⟩, List.mem_of_getElem? (i := 1211) (by decide +kernel), List.mem_of_getElem? (i := 1890) (by decide +kernel), List.mem_of_getElem? (i := 1891) (by decide +kernel)⟩
theorem lw_p109 : lw_okq (⟨"EmptyHatModel", "putsAside", "()V"⟩, 111) := ⟨⟨by decide +kernel, by decide +kernel⟩, List.mem_of_getElem? (i := 1211) (by decide +kernel), List.mem_of_getElem? (i := 1895) (by decide +kernel), List.mem_of_getElem? (i := 1896) (by decide +kernel)⟩
theorem lw_p110 : lw_okq (⟨"EmptyHatModel", "yearsGo", "(I)V"⟩, 111) := ⟨⟨by decide +kernel, by decide +kernel⟩, List.mem_of_getElem? (i := 1211) (by decide +kernel), List.mem_of_getElem? (i := 1899) (by decide +kernel), List.mem_of_getElem? (i := 1900) (by decide +kernel)⟩
theorem lw_p111 : lw_okq (⟨"EmptyHatModel", "yearGoes", "()V"⟩, 111) := ⟨⟨by decide +kernel, by decide +kernel⟩, List.mem_of_getElem? (i := 1211) (by decide +kernel), List.mem_of_getElem? (i := 1903) (by decide +kernel), List.mem_of_getElem? (i := 1904) (by decide +kernel)⟩
def lw_privs_7 : List (MethodName × Nat) := [(⟨"EmptyHatModel", "isWatcher", "(I)Z"⟩, 111), (⟨"EmptyHatModel", "sightAll", "(II)I"⟩, 111), (⟨"EmptyHatModel", "yieldsComeNow", "()V"⟩, 111), (⟨"EmptyHatModel", "yieldsCome", "()V"⟩, 111), (⟨"EmptyHatModel", "bestShow", "()I"⟩, 111), (⟨"EmptyHatModel", "laysSights", "()V"⟩, 111), (⟨"EmptyHatModel", "allTricks", "()I"⟩, 111), (⟨"EmptyHatModel", "canShow", "(I)Z"⟩, 111), (⟨"EmptyHatModel", "isBetter", "(II)Z"⟩, 111), (⟨"EmptyHatModel", "appearsBy", "(I)I"⟩, 111), (⟨"EmptyHatModel", "sightBySet", "(I)I"⟩, 111), (⟨"EmptyHatModel", "yieldsGoBack", "()V"⟩, 111), (⟨"EmptyHatModel", "isAhead", "(III)Z"⟩, 111), (⟨"EmptyHatModel", "putsAside", "()V"⟩, 111), (⟨"EmptyHatModel", "yearsGo", "(I)V"⟩, 111), (⟨"EmptyHatModel", "yearGoes", "()V"⟩, 111)]
theorem lw_r7 : ∀ q ∈ lw_privs_7, lw_okq q := List.forall_mem_cons.mpr ⟨lw_p96, List.forall_mem_cons.mpr ⟨lw_p97, List.forall_mem_cons.mpr ⟨lw_p98, List.forall_mem_cons.mpr ⟨lw_p99, List.forall_mem_cons.mpr ⟨lw_p100, List.forall_mem_cons.mpr ⟨lw_p101, List.forall_mem_cons.mpr ⟨lw_p102, List.forall_mem_cons.mpr ⟨lw_p103, List.forall_mem_cons.mpr ⟨lw_p104, List.forall_mem_cons.mpr ⟨lw_p105, List.forall_mem_cons.mpr ⟨lw_p106, List.forall_mem_cons.mpr ⟨lw_p107, List.forall_mem_cons.mpr ⟨lw_p108, List.forall_mem_cons.mpr ⟨lw_p109, List.forall_mem_cons.mpr ⟨lw_p110, List.forall_mem_cons.mpr ⟨lw_p111, fun _ h => absurd h List.not_mem_nil⟩⟩⟩⟩⟩⟩⟩⟩⟩⟩⟩⟩⟩⟩⟩⟩
theorem lw_p112 : lw_okq (⟨"EmptyHatModel", "yearEnds", "(I)V"⟩, 111) := ⟨⟨by decide +kernel, by decide +kernel⟩, List.mem_of_getElem? (i := 1211) (by decide +kernel), List.mem_of_getElem? (i := 1907) (by decide +kernel), List.mem_of_getElem? (i := 1908) (by decide +kernel)⟩
theorem lw_p113 : lw_okq (⟨"EmptyHatModel", "showGoes", "(I)V"⟩, 111) := ⟨⟨by decide +kernel, by decide +kernel⟩, List.mem_of_getElem? (i := 1211) (by decide +kernel), List.mem_of_getElem? (i := 1911) (by decide +kernel), List.mem_of_getElem? (i := 1912) (by decide +kernel)⟩
theorem lw_p114 : lw_okq (⟨"EmptyHatModel", "isSeenThrough", "(I)V"⟩, 111) := ⟨⟨by decide +kernel, by decide +kernel⟩, List.mem_of_getElem? (i := 1211) (by decide +kernel), List.mem_of_getElem? (i := 1915) (by decide +kernel), List.mem_of_getElem? (i := 1916) (by decide +kernel)⟩
theorem lw_p115 : lw_okq (⟨"EmptyHatModel", "isKept", "(I)V"⟩, 111) := ⟨⟨by decide +kernel, by decide +kernel⟩, List.mem_of_getElem? (i := 1211) (by decide +kernel), List.mem_of_getElem? (i := 1920) (by decide +kernel), List.mem_of_getElem? (i := 1921) (by decide +kernel)⟩
theorem lw_p116 : lw_okq (⟨"EmptyHatModel", "debtGoes", "()V"⟩, 111) := ⟨⟨by decide +kernel, by decide +kernel⟩, List.mem_of_getElem? (i := 1211) (by decide +kernel), List.mem_of_getElem? (i := 1924) (by decide +kernel), List.mem_of_getElem? (i := 1925) (by decide +kernel)⟩
theorem lw_p117 : lw_okq (⟨"EmptyHatModel", "takesBack", "()V"⟩, 111) := ⟨⟨by decide +kernel, by decide +kernel⟩, List.mem_of_getElem? (i := 1211) (by decide +kernel), List.mem_of_getElem? (i := 1931) (by decide +kernel), List.mem_of_getElem? (i := 1932) (by decide +kernel)⟩
theorem lw_p118 : lw_okq (⟨"EmptyHatModel", "triesAnew", "()V"⟩, 111) := ⟨⟨by decide +kernel, by decide +kernel⟩, List.mem_of_getElem? (i := 1211) (by decide +kernel), List.mem_of_getElem? (i := 1935) (by decide +kernel), List.mem_of_getElem? (i := 1936) (by decide +kernel)⟩
theorem lw_p119 : lw_okq (⟨"EmptyHatModel", "refuses", "(I)I"⟩, 111) := ⟨⟨by decide +kernel, by decide +kernel⟩, List.mem_of_getElem? (i := 1211) (by decide +kernel), List.mem_of_getElem? (i := 1955) (by decide +kernel), List.mem_of_getElem? (i := 1956) (by decide +kernel)⟩
theorem lw_p120 : lw_okq (⟨"EmptyHatModel", "laysShows", "()V"⟩, 111) := ⟨⟨by decide +kernel, by decide +kernel⟩, List.mem_of_getElem? (i := 1211) (by decide +kernel), List.mem_of_getElem? (i := 1963) (by decide +kernel), List.mem_of_getElem? (i := 1964) (by decide +kernel)⟩
theorem lw_p121 : lw_okq (⟨"EmptyHatModel", "isAsCounted", "()Z"⟩, 111) := ⟨⟨by decide +kernel, by decide +kernel⟩, List.mem_of_getElem? (i := 1211) (by decide +kernel), List.mem_of_getElem? (i := 1967) (by decide +kernel), List.mem_of_getElem? (i := 1968) (by decide +kernel)⟩
theorem lw_p122 : lw_okq (⟨"EmptyHatModel", "alike", "(II)I"⟩, 111) := ⟨⟨by decide +kernel, by decide +kernel⟩, List.mem_of_getElem? (i := 1211) (by decide +kernel), List.mem_of_getElem? (i := 1975) (by decide +kernel), List.mem_of_getElem? (i := 1976) (by decide +kernel)⟩
theorem lw_p123 : lw_okq (⟨"EmptyHatModel", "doWatch", "(II)Z"⟩, 111) := ⟨⟨by decide +kernel, by decide +kernel⟩, List.mem_of_getElem? (i := 1211) (by decide +kernel), List.mem_of_getElem? (i := 1983) (by decide +kernel), List.mem_of_getElem? (i := 1984) (by decide +kernel)⟩
theorem lw_p124 : lw_okq (⟨"EmptyHatModel", "keeps", "()V"⟩, 111) := ⟨⟨by decide +kernel, by decide +kernel⟩, List.mem_of_getElem? (i := 1211) (by decide +kernel), List.mem_of_getElem? (i := 1999) (by decide +kernel), List.mem_of_getElem? (i := 2000) (by decide +kernel)⟩
theorem lw_p125 : lw_okq (⟨"EmptyHatModel", "isRefused", "()Z"⟩, 111) := ⟨⟨by decide +kernel, by decide +kernel⟩, List.mem_of_getElem? (i := 1211) (by decide +kernel), List.mem_of_getElem? (i := 2008) (by decide +kernel), List.mem_of_getElem? (i := 2009) (by decide +kernel)⟩
theorem lw_p126 : lw_okq (⟨"EmptyHatModel", "drawOf", "(I)I"⟩, 111) := ⟨⟨by decide +kernel, by decide +kernel⟩, List.mem_of_getElem? (i := 1211) (by decide +kernel), List.mem_of_getElem? (i := 2029) (by decide +kernel), List.mem_of_getElem? (i := 2030) (by decide +kernel)⟩
theorem lw_p127 : lw_okq (⟨"EmptyHatModel", "qKind", "()I"⟩, 111) := ⟨⟨by decide +kernel, by decide +kernel⟩, List.mem_of_getElem? (i := 1211) (by decide +kernel), List.mem_of_getElem? (i := 2042) (by decide +kernel), List.mem_of_getElem? (i := 2043) (by decide +kernel)⟩
def lw_privs_8 : List (MethodName × Nat) := [(⟨"EmptyHatModel", "yearEnds", "(I)V"⟩, 111), (⟨"EmptyHatModel", "showGoes", "(I)V"⟩, 111), (⟨"EmptyHatModel", "isSeenThrough", "(I)V"⟩, 111), (⟨"EmptyHatModel", "isKept", "(I)V"⟩, 111), (⟨"EmptyHatModel", "debtGoes", "()V"⟩, 111), (⟨"EmptyHatModel", "takesBack", "()V"⟩, 111), (⟨"EmptyHatModel", "triesAnew", "()V"⟩, 111), (⟨"EmptyHatModel", "refuses", "(I)I"⟩, 111), (⟨"EmptyHatModel", "laysShows", "()V"⟩, 111), (⟨"EmptyHatModel", "isAsCounted", "()Z"⟩, 111), (⟨"EmptyHatModel", "alike", "(II)I"⟩, 111), (⟨"EmptyHatModel", "doWatch", "(II)Z"⟩, 111), (⟨"EmptyHatModel", "keeps", "()V"⟩, 111), (⟨"EmptyHatModel", "isRefused", "()Z"⟩, 111), (⟨"EmptyHatModel", "drawOf", "(I)I"⟩, 111), (⟨"EmptyHatModel", "qKind", "()I"⟩, 111)]
theorem lw_r8 : ∀ q ∈ lw_privs_8, lw_okq q := List.forall_mem_cons.mpr ⟨lw_p112, List.forall_mem_cons.mpr ⟨lw_p113, List.forall_mem_cons.mpr ⟨lw_p114, List.forall_mem_cons.mpr ⟨lw_p115, List.forall_mem_cons.mpr ⟨lw_p116, List.forall_mem_cons.mpr ⟨lw_p117, List.forall_mem_cons.mpr ⟨lw_p118, List.forall_mem_cons.mpr ⟨lw_p119, List.forall_mem_cons.mpr ⟨lw_p120, List.forall_mem_cons.mpr ⟨lw_p121, List.forall_mem_cons.mpr ⟨lw_p122, List.forall_mem_cons.mpr ⟨lw_p123, List.forall_mem_cons.mpr ⟨lw_p124, List.forall_mem_cons.mpr ⟨lw_p125, List.forall_mem_cons.mpr ⟨lw_p126, List.forall_mem_cons.mpr ⟨lw_p127, fun _ h => absurd h List.not_mem_nil⟩⟩⟩⟩⟩⟩⟩⟩⟩⟩⟩⟩⟩⟩⟩⟩
theorem lw_p128 : lw_okq (⟨"EmptyHatModel", "qTest", "()V"⟩, 111) := ⟨⟨by decide +kernel, by decide +kernel⟩, List.mem_of_getElem? (i := 1211) (by decide +kernel), List.mem_of_getElem? (i := 2046) (by decide +kernel), List.mem_of_getElem? (i := 2047) (by decide +kernel)⟩
theorem lw_p129 : lw_okq (⟨"EmptyHatModel", "qFact", "()V"⟩, 111) := ⟨⟨by decide +kernel, by decide +kernel⟩, List.mem_of_getElem? (i := 1211) (by decide +kernel), List.mem_of_getElem? (i := 2050) (by decide +kernel), List.mem_of_getElem? (i := 2051) (by decide +kernel)⟩
theorem lw_p130 : lw_okq (⟨"EmptyHatModel", "qDropsNots", "()V"⟩, 111) := ⟨⟨by decide +kernel, by decide +kernel⟩, List.mem_of_getElem? (i := 1211) (by decide +kernel), List.mem_of_getElem? (i := 2054) (by decide +kernel), List.mem_of_getElem? (i := 2055) (by decide +kernel)⟩
theorem lw_p131 : lw_okq (⟨"EmptyHatModel", "qGoesOnTest", "()Z"⟩, 111) := ⟨⟨by decide +kernel, by decide +kernel⟩, List.mem_of_getElem? (i := 1211) (by decide +kernel), List.mem_of_getElem? (i := 2058) (by decide +kernel), List.mem_of_getElem? (i := 2059) (by decide +kernel)⟩
theorem lw_p132 : lw_okq (⟨"EmptyHatModel", "qHasSquare", "()Z"⟩, 111) := ⟨⟨by decide +kernel, by decide +kernel⟩, List.mem_of_getElem? (i := 1211) (by decide +kernel), List.mem_of_getElem? (i := 2062) (by decide +kernel), List.mem_of_getElem? (i := 2063) (by decide +kernel)⟩
theorem lw_p133 : lw_okq (⟨"EmptyHatModel", "qTold", "(I)J"⟩, 111) := ⟨⟨by decide +kernel, by decide +kernel⟩, List.mem_of_getElem? (i := 1211) (by decide +kernel), List.mem_of_getElem? (i := 2067) (by decide +kernel), List.mem_of_getElem? (i := 2068) (by decide +kernel)⟩
theorem lw_p134 : lw_okq (⟨"EmptyHatModel", "qOf", "(IJI)J"⟩, 111) := ⟨⟨by decide +kernel, by decide +kernel⟩, List.mem_of_getElem? (i := 1211) (by decide +kernel), List.mem_of_getElem? (i := 2071) (by decide +kernel), List.mem_of_getElem? (i := 2072) (by decide +kernel)⟩
theorem lw_p135 : lw_okq (⟨"EmptyHatModel", "qTakes", "(IJI)V"⟩, 111) := ⟨⟨by decide +kernel, by decide +kernel⟩, List.mem_of_getElem? (i := 1211) (by decide +kernel), List.mem_of_getElem? (i := 2075) (by decide +kernel), List.mem_of_getElem? (i := 2076) (by decide +kernel)⟩
theorem lw_p136 : lw_okq (⟨"EmptyHatModel", "writesTwo", "(I)V"⟩, 111) := ⟨⟨by decide +kernel, by decide +kernel⟩, List.mem_of_getElem? (i := 1211) (by decide +kernel), List.mem_of_getElem? (i := 2083) (by decide +kernel), List.mem_of_getElem? (i := 2084) (by decide +kernel)⟩
theorem lw_p137 : lw_okq (⟨"EmptyHatModel", "writes", "(I)V"⟩, 111) := ⟨⟨by decide +kernel, by decide +kernel⟩, List.mem_of_getElem? (i := 1211) (by decide +kernel), List.mem_of_getElem? (i := 2087) (by decide +kernel), List.mem_of_getElem? (i := 2088) (by decide +kernel)⟩
theorem lw_p138 : lw_okq (⟨"EmptyHatModel", "isImage", "(I)Z"⟩, 111) := ⟨⟨by decide +kernel, by decide +kernel⟩, List.mem_of_getElem? (i := 1211) (by decide +kernel), List.mem_of_getElem? (i := 2103) (by decide +kernel), List.mem_of_getElem? (i := 2104) (by decide +kernel)⟩
theorem lw_p139 : lw_okq (⟨"EmptyHatModel", "twoAt", "(I)I"⟩, 111) := ⟨⟨by decide +kernel, by decide +kernel⟩, List.mem_of_getElem? (i := 1211) (by decide +kernel), List.mem_of_getElem? (i := 2107) (by decide +kernel), List.mem_of_getElem? (i := 2108) (by decide +kernel)⟩
def lw_privs_9 : List (MethodName × Nat) := [(⟨"EmptyHatModel", "qTest", "()V"⟩, 111), (⟨"EmptyHatModel", "qFact", "()V"⟩, 111), (⟨"EmptyHatModel", "qDropsNots", "()V"⟩, 111), (⟨"EmptyHatModel", "qGoesOnTest", "()Z"⟩, 111), (⟨"EmptyHatModel", "qHasSquare", "()Z"⟩, 111), (⟨"EmptyHatModel", "qTold", "(I)J"⟩, 111), (⟨"EmptyHatModel", "qOf", "(IJI)J"⟩, 111), (⟨"EmptyHatModel", "qTakes", "(IJI)V"⟩, 111), (⟨"EmptyHatModel", "writesTwo", "(I)V"⟩, 111), (⟨"EmptyHatModel", "writes", "(I)V"⟩, 111), (⟨"EmptyHatModel", "isImage", "(I)Z"⟩, 111), (⟨"EmptyHatModel", "twoAt", "(I)I"⟩, 111)]
theorem lw_r9 : ∀ q ∈ lw_privs_9, lw_okq q := List.forall_mem_cons.mpr ⟨lw_p128, List.forall_mem_cons.mpr ⟨lw_p129, List.forall_mem_cons.mpr ⟨lw_p130, List.forall_mem_cons.mpr ⟨lw_p131, List.forall_mem_cons.mpr ⟨lw_p132, List.forall_mem_cons.mpr ⟨lw_p133, List.forall_mem_cons.mpr ⟨lw_p134, List.forall_mem_cons.mpr ⟨lw_p135, List.forall_mem_cons.mpr ⟨lw_p136, List.forall_mem_cons.mpr ⟨lw_p137, List.forall_mem_cons.mpr ⟨lw_p138, List.forall_mem_cons.mpr ⟨lw_p139, fun _ h => absurd h List.not_mem_nil⟩⟩⟩⟩⟩⟩⟩⟩⟩⟩⟩⟩
def lw_privs : List (MethodName × Nat) := lw_privs_1 ++ (lw_privs_2 ++ (lw_privs_3 ++ (lw_privs_4 ++ (lw_privs_5 ++ (lw_privs_6 ++ (lw_privs_7 ++ (lw_privs_8 ++ (lw_privs_9))))))))
def lw_tbl : List Cond := k2_sels lw_privs ++ tables_1
theorem lw_privs_ok : ∀ q ∈ lw_privs, lw_okq q := by
  show ∀ q ∈ lw_privs_1 ++ (lw_privs_2 ++ (lw_privs_3 ++ (lw_privs_4 ++ (lw_privs_5 ++ (lw_privs_6 ++ (lw_privs_7 ++ (lw_privs_8 ++ (lw_privs_9)))))))), lw_okq q
  exact List.forall_mem_append.mpr ⟨lw_r1, List.forall_mem_append.mpr ⟨lw_r2, List.forall_mem_append.mpr ⟨lw_r3, List.forall_mem_append.mpr ⟨lw_r4, List.forall_mem_append.mpr ⟨lw_r5, List.forall_mem_append.mpr ⟨lw_r6, List.forall_mem_append.mpr ⟨lw_r7, List.forall_mem_append.mpr ⟨lw_r8, lw_r9⟩⟩⟩⟩⟩⟩⟩⟩
end
section
def RX0 : String := "EmptyHat$Ahead"
def TX0 : u_T := fun k => match k with
  | 0 => ("EmptyHat$Ahead", "debts", "[I", true)
  | 1 => ("EmptyHat$Ahead", "beliefs", "[I", true)
  | 2 => ("EmptyHat$Ahead", "throughs", "[I", true)
  | 3 => ("EmptyHat$Ahead", "coins", "[I", true)
  | 4 => ("EmptyHat$Ahead", "pair", "[I", true)
  | 5 => ("EmptyHat$Ahead", "stage", "LEmptyHat$Stage;", true)
  | 6 => ("EmptyHat$Ahead", "front", "LEmptyHat$State;", true)
  | 7 => ("EmptyHat$Ahead", "ripe", "LEmptyHat$State;", true)
  | 8 => ("EmptyHat$Ahead", "between", "LEmptyHat$State;", true)
  | 9 => ("EmptyHat$Ahead", "behind", "LEmptyHat$State;", true)
  | 10 => ("EmptyHat$Ahead", "now", "[I", true)
  | 11 => ("EmptyHat$Ahead", "unshown", "[I", true)
  | 12 => ("EmptyHat$Ahead", "again", "[I", true)
  | 13 => ("EmptyHat$Ahead", "next", "[I", true)
  | 14 => ("EmptyHat$Ahead", "reached", "I", false)
  | _ => ("EmptyHat$Ahead", "paired", "Z", false)
def tyX0 : Nat → FieldType := fun k => match k with
  | 0 => .array .int
  | 1 => .array .int
  | 2 => .array .int
  | 3 => .array .int
  | 4 => .array .int
  | 5 => .object "EmptyHat$Stage"
  | 6 => .object "EmptyHat$State"
  | 7 => .object "EmptyHat$State"
  | 8 => .object "EmptyHat$State"
  | 9 => .object "EmptyHat$State"
  | 10 => .array .int
  | 11 => .array .int
  | 12 => .array .int
  | 13 => .array .int
  | 14 => .int
  | _ => .boolean
abbrev wsX00 : List Cond := u_ws RX0 TX0 16
theorem nmX0 : ∀ a, a < 16 → ∀ b, b < 16 → a ≠ b → (TX0 a).2.1 ≠ (TX0 b).2.1 := by decide +kernel
theorem tyX0_ok : ∀ k, k < 16 → parseFieldDescriptor (TX0 k).2.2.1 = some (tyX0 k) := by decide +kernel
abbrev cX0_init : ByteArray := prog_2_method_1_code
def yX0_init : MethodName := ⟨RX0, "<init>", "(LEmptyHat$Stage;)V"⟩
abbrev cX0_forget : ByteArray := prog_2_method_2_code
def yX0_forget : MethodName := ⟨RX0, "forget", "()V"⟩
abbrev cX0_reach : ByteArray := prog_2_method_3_code
def yX0_reach : MethodName := ⟨RX0, "reach", "(LEmptyHat$State;I)Z"⟩
abbrev cX0_worth : ByteArray := prog_2_method_4_code
def yX0_worth : MethodName := ⟨RX0, "worth", "(I)I"⟩
abbrev cX0_findPair : ByteArray := prog_2_method_5_code
def yX0_findPair : MethodName := ⟨RX0, "findPair", "(LEmptyHat$State;)V"⟩
abbrev cX0_lookAhead : ByteArray := prog_2_method_6_code
def yX0_lookAhead : MethodName := ⟨RX0, "lookAhead", "(I)V"⟩
abbrev cX0_pairWith : ByteArray := prog_2_method_7_code
def yX0_pairWith : MethodName := ⟨RX0, "pairWith", "(I)V"⟩
abbrev cX0_note : ByteArray := prog_2_method_8_code
def yX0_note : MethodName := ⟨RX0, "note", "(I)V"⟩
def RX1 : String := "EmptyHat$Counted"
def TX1 : u_T := fun k => match k with
  | 0 => ("EmptyHat$Counted", "rows", "I", false)
  | 1 => ("EmptyHat$Counted", "fitting", "I", false)
  | 2 => ("EmptyHat$Counted", "chosen", "I", false)
  | 3 => ("EmptyHat$Counted", "chosenLeft", "I", false)
  | 4 => ("EmptyHat$Counted", "stage", "LEmptyHat$Stage;", true)
  | 5 => ("EmptyHat$Counted", "provinces", "[I", true)
  | 6 => ("EmptyHat$Counted", "stores", "[I", true)
  | 7 => ("EmptyHat$Counted", "fits", "[I", true)
  | _ => ("EmptyHat$Counted", "lefts", "[[I", true)
def tyX1 : Nat → FieldType := fun k => match k with
  | 0 => .int
  | 1 => .int
  | 2 => .int
  | 3 => .int
  | 4 => .object "EmptyHat$Stage"
  | 5 => .array .int
  | 6 => .array .int
  | 7 => .array .int
  | _ => .array (.array .int)
abbrev wsX10 : List Cond := u_ws RX1 TX1 9
theorem nmX1 : ∀ a, a < 9 → ∀ b, b < 9 → a ≠ b → (TX1 a).2.1 ≠ (TX1 b).2.1 := by decide +kernel
theorem tyX1_ok : ∀ k, k < 9 → parseFieldDescriptor (TX1 k).2.2.1 = some (tyX1 k) := by decide +kernel
abbrev cX1_init : ByteArray := prog_3_method_1_code
def yX1_init : MethodName := ⟨RX1, "<init>", "(LEmptyHat$Stage;)V"⟩
abbrev cX1_readFrom : ByteArray := prog_3_method_2_code
def yX1_readFrom : MethodName := ⟨RX1, "readFrom", "(LEmptyHat$Text;)Z"⟩
abbrev cX1_find : ByteArray := prog_3_method_3_code
def yX1_find : MethodName := ⟨RX1, "find", "(LEmptyHat$State;)V"⟩
abbrev cX1_inAll : ByteArray := prog_3_method_4_code
def yX1_inAll : MethodName := ⟨RX1, "inAll", "()I"⟩
abbrev cX1_inSome : ByteArray := prog_3_method_5_code
def yX1_inSome : MethodName := ⟨RX1, "inSome", "()I"⟩
abbrev cX1_choose : ByteArray := prog_3_method_6_code
def yX1_choose : MethodName := ⟨RX1, "choose", "()V"⟩
abbrev cX1_addFitting : ByteArray := prog_3_method_7_code
def yX1_addFitting : MethodName := ⟨RX1, "addFitting", "(I)V"⟩
abbrev cX1_isSo : ByteArray := prog_3_method_8_code
def yX1_isSo : MethodName := ⟨RX1, "isSo", "()Z"⟩
abbrev cX1_mostLeft : ByteArray := prog_3_method_9_code
def yX1_mostLeft : MethodName := ⟨RX1, "mostLeft", "([I)I"⟩
def RX2 : String := "EmptyHat$Crown"
def TX2 : u_T := fun k => match k with
  | 0 => ("EmptyHat$Crown", "need", "I", false)
  | 1 => ("EmptyHat$Crown", "debt", "I", false)
  | 2 => ("EmptyHat$Crown", "rate", "I", false)
  | 3 => ("EmptyHat$Crown", "belief", "I", false)
  | 4 => ("EmptyHat$Crown", "boys", "I", false)
  | 5 => ("EmptyHat$Crown", "counts", "[I", true)
  | 6 => ("EmptyHat$Crown", "names", "[[I", true)
  | 7 => ("EmptyHat$Crown", "stores", "[I", true)
  | 8 => ("EmptyHat$Crown", "yields", "[I", true)
  | 9 => ("EmptyHat$Crown", "takes", "[I", true)
  | 10 => ("EmptyHat$Crown", "from", "[I", true)
  | 11 => ("EmptyHat$Crown", "look", "[I", true)
  | 12 => ("EmptyHat$Crown", "seats", "[I", true)
  | 13 => ("EmptyHat$Crown", "glass", "[I", true)
  | 14 => ("EmptyHat$Crown", "sees", "LEmptyHat$Formula;", true)
  | _ => ("EmptyHat$Crown", "loses", "LEmptyHat$Formula;", true)
def tyX2 : Nat → FieldType := fun k => match k with
  | 0 => .int
  | 1 => .int
  | 2 => .int
  | 3 => .int
  | 4 => .int
  | 5 => .array .int
  | 6 => .array (.array .int)
  | 7 => .array .int
  | 8 => .array .int
  | 9 => .array .int
  | 10 => .array .int
  | 11 => .array .int
  | 12 => .array .int
  | 13 => .array .int
  | 14 => .object "EmptyHat$Formula"
  | _ => .object "EmptyHat$Formula"
abbrev wsX20 : List Cond := u_ws RX2 TX2 16
theorem nmX2 : ∀ a, a < 16 → ∀ b, b < 16 → a ≠ b → (TX2 a).2.1 ≠ (TX2 b).2.1 := by decide +kernel
theorem tyX2_ok : ∀ k, k < 16 → parseFieldDescriptor (TX2 k).2.2.1 = some (tyX2 k) := by decide +kernel
abbrev cX2_init : ByteArray := prog_4_method_1_code
def yX2_init : MethodName := ⟨RX2, "<init>", "()V"⟩
abbrev cX2_clear : ByteArray := prog_4_method_2_code
def yX2_clear : MethodName := ⟨RX2, "clear", "()V"⟩
abbrev cX2_holds : ByteArray := prog_4_method_3_code
def yX2_holds : MethodName := ⟨RX2, "holds", "(II)Z"⟩
abbrev cX2_numberOf : ByteArray := prog_4_method_4_code
def yX2_numberOf : MethodName := ⟨RX2, "numberOf", "(II)I"⟩
abbrev cX2_tricksFrom : ByteArray := prog_4_method_5_code
def yX2_tricksFrom : MethodName := ⟨RX2, "tricksFrom", "(I)I"⟩
def RX3 : String := "EmptyHat$CrownReader"
def TX3 : u_T := fun k => match k with
  | 0 => ("EmptyHat$CrownReader", "text", "LEmptyHat$Text;", true)
  | 1 => ("EmptyHat$CrownReader", "reader", "LEmptyHat$Reader;", true)
  | 2 => ("EmptyHat$CrownReader", "crown", "LEmptyHat$Crown;", false)
  | 3 => ("EmptyHat$CrownReader", "toldOnce", "I", false)
  | _ => ("EmptyHat$CrownReader", "statements", "I", false)
def tyX3 : Nat → FieldType := fun k => match k with
  | 0 => .object "EmptyHat$Text"
  | 1 => .object "EmptyHat$Reader"
  | 2 => .object "EmptyHat$Crown"
  | 3 => .int
  | _ => .int
abbrev wsX30 : List Cond := u_ws RX3 TX3 5
theorem nmX3 : ∀ a, a < 5 → ∀ b, b < 5 → a ≠ b → (TX3 a).2.1 ≠ (TX3 b).2.1 := by decide +kernel
theorem tyX3_ok : ∀ k, k < 5 → parseFieldDescriptor (TX3 k).2.2.1 = some (tyX3 k) := by decide +kernel
abbrev cX3_init : ByteArray := prog_5_method_1_code
def yX3_init : MethodName := ⟨RX3, "<init>", "(LEmptyHat$Text;LEmptyHat$Crown;)V"⟩
abbrev cX3_readInto : ByteArray := prog_5_method_2_code
def yX3_readInto : MethodName := ⟨RX3, "readInto", "(LEmptyHat$Crown;)Z"⟩
abbrev cX3_treasury : ByteArray := prog_5_method_3_code
def yX3_treasury : MethodName := ⟨RX3, "treasury", "()Z"⟩
abbrev cX3_statement : ByteArray := prog_5_method_4_code
def yX3_statement : MethodName := ⟨RX3, "statement", "()Z"⟩
abbrev cX3_oneMore : ByteArray := prog_5_method_5_code
def yX3_oneMore : MethodName := ⟨RX3, "oneMore", "(II)Z"⟩
abbrev cX3_onlyOne : ByteArray := prog_5_method_6_code
def yX3_onlyOne : MethodName := ⟨RX3, "onlyOne", "()Z"⟩
abbrev cX3_newProvince : ByteArray := prog_5_method_7_code
def yX3_newProvince : MethodName := ⟨RX3, "newProvince", "()Z"⟩
abbrev cX3_newTrick : ByteArray := prog_5_method_8_code
def yX3_newTrick : MethodName := ⟨RX3, "newTrick", "()Z"⟩
abbrev cX3_newWatcher : ByteArray := prog_5_method_9_code
def yX3_newWatcher : MethodName := ⟨RX3, "newWatcher", "()Z"⟩
abbrev cX3_beliefAtFirst : ByteArray := prog_5_method_10_code
def yX3_beliefAtFirst : MethodName := ⟨RX3, "beliefAtFirst", "()Z"⟩
abbrev cX3_boysOfHundred : ByteArray := prog_5_method_11_code
def yX3_boysOfHundred : MethodName := ⟨RX3, "boysOfHundred", "()Z"⟩
def RX4 : String := "EmptyHat$Formula"
def TX4 : u_T := fun k => match k with
  | 0 => ("EmptyHat$Formula", "codes", "[I", true)
  | 1 => ("EmptyHat$Formula", "stack", "[I", true)
  | _ => ("EmptyHat$Formula", "length", "I", false)
def tyX4 : Nat → FieldType := fun k => match k with
  | 0 => .array .int
  | 1 => .array .int
  | _ => .int
abbrev wsX40 : List Cond := u_ws RX4 TX4 3
theorem nmX4 : ∀ a, a < 3 → ∀ b, b < 3 → a ≠ b → (TX4 a).2.1 ≠ (TX4 b).2.1 := by decide +kernel
theorem tyX4_ok : ∀ k, k < 3 → parseFieldDescriptor (TX4 k).2.2.1 = some (tyX4 k) := by decide +kernel
abbrev cX4_init : ByteArray := prog_6_method_1_code
def yX4_init : MethodName := ⟨RX4, "<init>", "()V"⟩
abbrev cX4_clear : ByteArray := prog_6_method_2_code
def yX4_clear : MethodName := ⟨RX4, "clear", "()V"⟩
abbrev cX4_add : ByteArray := prog_6_method_3_code
def yX4_add : MethodName := ⟨RX4, "add", "(I)V"⟩
abbrev cX4_value : ByteArray := prog_6_method_4_code
def yX4_value : MethodName := ⟨RX4, "value", "([I)I"⟩
abbrev cX4_factAt : ByteArray := prog_6_method_5_code
def yX4_factAt : MethodName := ⟨RX4, "factAt", "([II)I"⟩
abbrev cX4_single : ByteArray := prog_6_method_6_code
def yX4_single : MethodName := ⟨RX4, "single", "(II[I)I"⟩
abbrev cX4_joined : ByteArray := prog_6_method_7_code
def yX4_joined : MethodName := ⟨RX4, "joined", "(IJJ)J"⟩
abbrev cX4_bounded : ByteArray := prog_6_method_8_code
def yX4_bounded : MethodName := ⟨RX4, "bounded", "(J)I"⟩
def RX5 : String := "EmptyHat$Image"
def TX5 : u_T := fun k => match k with
  | 0 => ("EmptyHat$Image", "bytes", "[I", true)
  | 1 => ("EmptyHat$Image", "length", "I", false)
  | _ => ("EmptyHat$Image", "at", "I", false)
def tyX5 : Nat → FieldType := fun k => match k with
  | 0 => .array .int
  | 1 => .int
  | _ => .int
abbrev wsX50 : List Cond := u_ws RX5 TX5 3
theorem nmX5 : ∀ a, a < 3 → ∀ b, b < 3 → a ≠ b → (TX5 a).2.1 ≠ (TX5 b).2.1 := by decide +kernel
theorem tyX5_ok : ∀ k, k < 3 → parseFieldDescriptor (TX5 k).2.2.1 = some (tyX5 k) := by decide +kernel
abbrev cX5_init : ByteArray := prog_7_method_1_code
def yX5_init : MethodName := ⟨RX5, "<init>", "()V"⟩
abbrev cX5_write : ByteArray := prog_7_method_2_code
def yX5_write : MethodName := ⟨RX5, "write", "(LEmptyHat$State;LEmptyHat$Crown;)V"⟩
abbrev cX5_readable : ByteArray := prog_7_method_3_code
def yX5_readable : MethodName := ⟨RX5, "readable", "(LEmptyHat$Text;LEmptyHat$Crown;)Z"⟩
abbrev cX5_read : ByteArray := prog_7_method_4_code
def yX5_read : MethodName := ⟨RX5, "read", "(LEmptyHat$Text;LEmptyHat$Crown;LEmptyHat$State;)V"⟩
abbrev cX5_put : ByteArray := prog_7_method_5_code
def yX5_put : MethodName := ⟨RX5, "put", "(II)V"⟩
abbrev cX5_take : ByteArray := prog_7_method_6_code
def yX5_take : MethodName := ⟨RX5, "take", "(LEmptyHat$Text;I)I"⟩
abbrev cX5_isChecked : ByteArray := prog_7_method_7_code
def yX5_isChecked : MethodName := ⟨RX5, "isChecked", "(LEmptyHat$Text;)Z"⟩
def RX6 : String := "EmptyHat$Question"
def TX6 : u_T := fun k => match k with
  | 0 => ("EmptyHat$Question", "text", "LEmptyHat$Text;", true)
  | 1 => ("EmptyHat$Question", "reader", "LEmptyHat$Reader;", true)
  | 2 => ("EmptyHat$Question", "formula", "LEmptyHat$Formula;", true)
  | 3 => ("EmptyHat$Question", "facts", "[I", true)
  | _ => ("EmptyHat$Question", "verb", "I", false)
def tyX6 : Nat → FieldType := fun k => match k with
  | 0 => .object "EmptyHat$Text"
  | 1 => .object "EmptyHat$Reader"
  | 2 => .object "EmptyHat$Formula"
  | 3 => .array .int
  | _ => .int
abbrev wsX60 : List Cond := u_ws RX6 TX6 5
theorem nmX6 : ∀ a, a < 5 → ∀ b, b < 5 → a ≠ b → (TX6 a).2.1 ≠ (TX6 b).2.1 := by decide +kernel
theorem tyX6_ok : ∀ k, k < 5 → parseFieldDescriptor (TX6 k).2.2.1 = some (tyX6 k) := by decide +kernel
abbrev cX6_init : ByteArray := prog_8_method_1_code
def yX6_init : MethodName := ⟨RX6, "<init>", "(LEmptyHat$Text;)V"⟩
abbrev cX6_readAll : ByteArray := prog_8_method_2_code
def yX6_readAll : MethodName := ⟨RX6, "readAll", "()Z"⟩
abbrev cX6_answer : ByteArray := prog_8_method_3_code
def yX6_answer : MethodName := ⟨RX6, "answer", "(LEmptyHat$Stage;LEmptyHat$State;)J"⟩
abbrev cX6_with : ByteArray := prog_8_method_4_code
def yX6_with : MethodName := ⟨RX6, "with", "(JII)J"⟩
def RX7 : String := "EmptyHat$Reader"
def TX7 : u_T := fun k => match k with
  | 0 => ("EmptyHat$Reader", "text", "LEmptyHat$Text;", true)
  | 1 => ("EmptyHat$Reader", "formula", "LEmptyHat$Formula;", false)
  | _ => ("EmptyHat$Reader", "parts", "I", false)
def tyX7 : Nat → FieldType := fun k => match k with
  | 0 => .object "EmptyHat$Text"
  | 1 => .object "EmptyHat$Formula"
  | _ => .int
abbrev wsX70 : List Cond := u_ws RX7 TX7 3
theorem nmX7 : ∀ a, a < 3 → ∀ b, b < 3 → a ≠ b → (TX7 a).2.1 ≠ (TX7 b).2.1 := by decide +kernel
theorem tyX7_ok : ∀ k, k < 3 → parseFieldDescriptor (TX7 k).2.2.1 = some (tyX7 k) := by decide +kernel
abbrev cX7_init : ByteArray := prog_9_method_1_code
def yX7_init : MethodName := ⟨RX7, "<init>", "(LEmptyHat$Text;LEmptyHat$Formula;)V"⟩
abbrev cX7_readSum : ByteArray := prog_9_method_2_code
def yX7_readSum : MethodName := ⟨RX7, "readSum", "(LEmptyHat$Formula;I)Z"⟩
abbrev cX7_readTest : ByteArray := prog_9_method_3_code
def yX7_readTest : MethodName := ⟨RX7, "readTest", "(LEmptyHat$Formula;I)Z"⟩
abbrev cX7_aim : ByteArray := prog_9_method_4_code
def yX7_aim : MethodName := ⟨RX7, "aim", "(LEmptyHat$Formula;I)V"⟩
abbrev cX7_test : ByteArray := prog_9_method_5_code
def yX7_test : MethodName := ⟨RX7, "test", "(I)Z"⟩
abbrev cX7_facts : ByteArray := prog_9_method_6_code
def yX7_facts : MethodName := ⟨RX7, "facts", "(I)Z"⟩
abbrev cX7_fact : ByteArray := prog_9_method_7_code
def yX7_fact : MethodName := ⟨RX7, "fact", "(I)Z"⟩
abbrev cX7_compared : ByteArray := prog_9_method_8_code
def yX7_compared : MethodName := ⟨RX7, "compared", "(I)Z"⟩
abbrev cX7_sum : ByteArray := prog_9_method_9_code
def yX7_sum : MethodName := ⟨RX7, "sum", "(I)Z"⟩
abbrev cX7_product : ByteArray := prog_9_method_10_code
def yX7_product : MethodName := ⟨RX7, "product", "(I)Z"⟩
abbrev cX7_part : ByteArray := prog_9_method_11_code
def yX7_part : MethodName := ⟨RX7, "part", "(I)Z"⟩
abbrev cX7_oneOfTwo : ByteArray := prog_9_method_12_code
def yX7_oneOfTwo : MethodName := ⟨RX7, "oneOfTwo", "(I)Z"⟩
abbrev cX7_isPart : ByteArray := prog_9_method_13_code
def yX7_isPart : MethodName := ⟨RX7, "isPart", "()Z"⟩
abbrev cX7_opens : ByteArray := prog_9_method_14_code
def yX7_opens : MethodName := ⟨RX7, "opens", "(I)Z"⟩
def RX8 : String := "EmptyHat$Stage"
def TX8 : u_T := fun k => match k with
  | 0 => ("EmptyHat$Stage", "crown", "LEmptyHat$Crown;", false)
  | 1 => ("EmptyHat$Stage", "sights", "[I", true)
  | 2 => ("EmptyHat$Stage", "left", "[I", true)
  | 3 => ("EmptyHat$Stage", "chosen", "I", false)
  | 4 => ("EmptyHat$Stage", "chosenAppears", "I", false)
  | 5 => ("EmptyHat$Stage", "chosenSight", "I", false)
  | 6 => ("EmptyHat$Stage", "facts", "[I", true)
  | _ => ("EmptyHat$Stage", "seenBy", "[I", true)
def tyX8 : Nat → FieldType := fun k => match k with
  | 0 => .object "EmptyHat$Crown"
  | 1 => .array .int
  | 2 => .array .int
  | 3 => .int
  | 4 => .int
  | 5 => .int
  | 6 => .array .int
  | _ => .array .int
abbrev wsX80 : List Cond := u_ws RX8 TX8 8
theorem nmX8 : ∀ a, a < 8 → ∀ b, b < 8 → a ≠ b → (TX8 a).2.1 ≠ (TX8 b).2.1 := by decide +kernel
theorem tyX8_ok : ∀ k, k < 8 → parseFieldDescriptor (TX8 k).2.2.1 = some (tyX8 k) := by decide +kernel
abbrev cX8_init : ByteArray := prog_10_method_1_code
def yX8_init : MethodName := ⟨RX8, "<init>", "(LEmptyHat$Crown;)V"⟩
abbrev cX8_glimpse : ByteArray := prog_10_method_2_code
def yX8_glimpse : MethodName := ⟨RX8, "glimpse", "(LEmptyHat$State;III)I"⟩
abbrev cX8_sightOfTrick : ByteArray := prog_10_method_3_code
def yX8_sightOfTrick : MethodName := ⟨RX8, "sightOfTrick", "(LEmptyHat$State;I)I"⟩
abbrev cX8_sightFrom : ByteArray := prog_10_method_4_code
def yX8_sightFrom : MethodName := ⟨RX8, "sightFrom", "(LEmptyHat$State;II)I"⟩
abbrev cX8_lookAtAll : ByteArray := prog_10_method_5_code
def yX8_lookAtAll : MethodName := ⟨RX8, "lookAtAll", "(LEmptyHat$State;)V"⟩
abbrev cX8_describe : ByteArray := prog_10_method_6_code
def yX8_describe : MethodName := ⟨RX8, "describe", "(LEmptyHat$State;I[I)V"⟩
abbrev cX8_showable : ByteArray := prog_10_method_7_code
def yX8_showable : MethodName := ⟨RX8, "showable", "(LEmptyHat$State;)I"⟩
abbrev cX8_ripen : ByteArray := prog_10_method_8_code
def yX8_ripen : MethodName := ⟨RX8, "ripen", "(LEmptyHat$State;)V"⟩
abbrev cX8_takeAll : ByteArray := prog_10_method_9_code
def yX8_takeAll : MethodName := ⟨RX8, "takeAll", "(LEmptyHat$State;I)I"⟩
abbrev cX8_choose : ByteArray := prog_10_method_10_code
def yX8_choose : MethodName := ⟨RX8, "choose", "(LEmptyHat$State;)V"⟩
abbrev cX8_isBetter : ByteArray := prog_10_method_11_code
def yX8_isBetter : MethodName := ⟨RX8, "isBetter", "(III)Z"⟩
abbrev cX8_sightOfShow : ByteArray := prog_10_method_12_code
def yX8_sightOfShow : MethodName := ⟨RX8, "sightOfShow", "(I)I"⟩
abbrev cX8_passYear : ByteArray := prog_10_method_13_code
def yX8_passYear : MethodName := ⟨RX8, "passYear", "(LEmptyHat$State;)I"⟩
abbrev cX8_give : ByteArray := prog_10_method_14_code
def yX8_give : MethodName := ⟨RX8, "give", "(LEmptyHat$State;I[I)I"⟩
abbrev cX8_loseBelief : ByteArray := prog_10_method_15_code
def yX8_loseBelief : MethodName := ⟨RX8, "loseBelief", "(LEmptyHat$State;I)V"⟩
abbrev cX8_pay : ByteArray := prog_10_method_16_code
def yX8_pay : MethodName := ⟨RX8, "pay", "(LEmptyHat$State;I)V"⟩
abbrev cX8_fewestWatchers : ByteArray := prog_10_method_17_code
def yX8_fewestWatchers : MethodName := ⟨RX8, "fewestWatchers", "(LEmptyHat$State;I)I"⟩
abbrev cX8_seenByAny : ByteArray := prog_10_method_18_code
def yX8_seenByAny : MethodName := ⟨RX8, "seenByAny", "(I)I"⟩
def RX9 : String := "EmptyHat$State"
def TX9 : u_T := fun k => match k with
  | 0 => ("EmptyHat$State", "year", "I", false)
  | 1 => ("EmptyHat$State", "debt", "I", false)
  | 2 => ("EmptyHat$State", "belief", "I", false)
  | 3 => ("EmptyHat$State", "stores", "[I", true)
  | 4 => ("EmptyHat$State", "shown", "[I", true)
  | 5 => ("EmptyHat$State", "known", "[I", true)
  | 6 => ("EmptyHat$State", "seats", "[I", true)
  | 7 => ("EmptyHat$State", "keptRows", "I", false)
  | _ => ("EmptyHat$State", "keptCells", "[I", true)
def tyX9 : Nat → FieldType := fun k => match k with
  | 0 => .int
  | 1 => .int
  | 2 => .int
  | 3 => .array .int
  | 4 => .array .int
  | 5 => .array .int
  | 6 => .array .int
  | 7 => .int
  | _ => .array .int
abbrev wsX90 : List Cond := u_ws RX9 TX9 9
theorem nmX9 : ∀ a, a < 9 → ∀ b, b < 9 → a ≠ b → (TX9 a).2.1 ≠ (TX9 b).2.1 := by decide +kernel
theorem tyX9_ok : ∀ k, k < 9 → parseFieldDescriptor (TX9 k).2.2.1 = some (tyX9 k) := by decide +kernel
abbrev cX9_init : ByteArray := prog_11_method_1_code
def yX9_init : MethodName := ⟨RX9, "<init>", "()V"⟩
abbrev cX9_startOf : ByteArray := prog_11_method_2_code
def yX9_startOf : MethodName := ⟨RX9, "startOf", "(LEmptyHat$Crown;)V"⟩
abbrev cX9_copy : ByteArray := prog_11_method_3_code
def yX9_copy : MethodName := ⟨RX9, "copy", "(LEmptyHat$State;)V"⟩
abbrev cX9_keep : ByteArray := prog_11_method_4_code
def yX9_keep : MethodName := ⟨RX9, "keep", "(I)V"⟩
abbrev cX9_seenThrough : ByteArray := prog_11_method_5_code
def yX9_seenThrough : MethodName := ⟨RX9, "seenThrough", "()I"⟩
abbrev cX9_allStores : ByteArray := prog_11_method_6_code
def yX9_allStores : MethodName := ⟨RX9, "allStores", "()I"⟩
def RX10 : String := "EmptyHat$Text"
def TX10 : u_T := fun k => match k with
  | 0 => ("EmptyHat$Text", "bytes", "[B", true)
  | 1 => ("EmptyHat$Text", "length", "I", false)
  | 2 => ("EmptyHat$Text", "fault", "I", false)
  | 3 => ("EmptyHat$Text", "place", "I", false)
  | 4 => ("EmptyHat$Text", "kind", "I", false)
  | 5 => ("EmptyHat$Text", "start", "I", false)
  | 6 => ("EmptyHat$Text", "value", "I", false)
  | 7 => ("EmptyHat$Text", "name", "I", false)
  | 8 => ("EmptyHat$Text", "number", "I", false)
  | 9 => ("EmptyHat$Text", "past", "I", false)
  | _ => ("EmptyHat$Text", "words", "[I", true)
def tyX10 : Nat → FieldType := fun k => match k with
  | 0 => .array .byte
  | 1 => .int
  | 2 => .int
  | 3 => .int
  | 4 => .int
  | 5 => .int
  | 6 => .int
  | 7 => .int
  | 8 => .int
  | 9 => .int
  | _ => .array .int
abbrev wsX100 : List Cond := u_ws RX10 TX10 11
theorem nmX10 : ∀ a, a < 11 → ∀ b, b < 11 → a ≠ b → (TX10 a).2.1 ≠ (TX10 b).2.1 := by decide +kernel
theorem tyX10_ok : ∀ k, k < 11 → parseFieldDescriptor (TX10 k).2.2.1 = some (tyX10 k) := by decide +kernel
abbrev cX10_init : ByteArray := prog_12_method_1_code
def yX10_init : MethodName := ⟨RX10, "<init>", "()V"⟩
abbrev cX10_append : ByteArray := prog_12_method_2_code
def yX10_append : MethodName := ⟨RX10, "append", "(I)V"⟩
abbrev cX10_byteAt : ByteArray := prog_12_method_3_code
def yX10_byteAt : MethodName := ⟨RX10, "byteAt", "(I)I"⟩
abbrev cX10_begin : ByteArray := prog_12_method_4_code
def yX10_begin : MethodName := ⟨RX10, "begin", "()V"⟩
abbrev cX10_next : ByteArray := prog_12_method_5_code
def yX10_next : MethodName := ⟨RX10, "next", "()V"⟩
abbrev cX10_wrong : ByteArray := prog_12_method_6_code
def yX10_wrong : MethodName := ⟨RX10, "wrong", "(II)Z"⟩
abbrev cX10_isWord : ByteArray := prog_12_method_7_code
def yX10_isWord : MethodName := ⟨RX10, "isWord", "(I)Z"⟩
abbrev cX10_isSign : ByteArray := prog_12_method_8_code
def yX10_isSign : MethodName := ⟨RX10, "isSign", "(C)Z"⟩
abbrev cX10_takeWord : ByteArray := prog_12_method_9_code
def yX10_takeWord : MethodName := ⟨RX10, "takeWord", "(I)Z"⟩
abbrev cX10_takeSign : ByteArray := prog_12_method_10_code
def yX10_takeSign : MethodName := ⟨RX10, "takeSign", "(C)Z"⟩
abbrev cX10_takeNumber : ByteArray := prog_12_method_11_code
def yX10_takeNumber : MethodName := ⟨RX10, "takeNumber", "(II)Z"⟩
abbrev cX10_nameHere : ByteArray := prog_12_method_12_code
def yX10_nameHere : MethodName := ⟨RX10, "nameHere", "()Z"⟩
abbrev cX10_readWord : ByteArray := prog_12_method_13_code
def yX10_readWord : MethodName := ⟨RX10, "readWord", "()V"⟩
abbrev cX10_readDigits : ByteArray := prog_12_method_14_code
def yX10_readDigits : MethodName := ⟨RX10, "readDigits", "()V"⟩
def RX11 : String := "EmptyHat"
def TX11 : u_T := fun k => match k with
  | 0 => ("EmptyHat", "text", "LEmptyHat$Text;", true)
  | 1 => ("EmptyHat", "crown", "LEmptyHat$Crown;", false)
  | 2 => ("EmptyHat", "spare", "LEmptyHat$Crown;", false)
  | 3 => ("EmptyHat", "crownReader", "LEmptyHat$CrownReader;", true)
  | 4 => ("EmptyHat", "question", "LEmptyHat$Question;", true)
  | 5 => ("EmptyHat", "stage", "LEmptyHat$Stage;", true)
  | 6 => ("EmptyHat", "ahead", "LEmptyHat$Ahead;", true)
  | 7 => ("EmptyHat", "counted", "LEmptyHat$Counted;", true)
  | 8 => ("EmptyHat", "image", "LEmptyHat$Image;", true)
  | 9 => ("EmptyHat", "state", "LEmptyHat$State;", true)
  | 10 => ("EmptyHat", "scratch", "LEmptyHat$State;", true)
  | 11 => ("EmptyHat", "past", "[LEmptyHat$State;", true)
  | 12 => ("EmptyHat", "refused", "[I", true)
  | 13 => ("EmptyHat", "crowned", "Z", false)
  | 14 => ("EmptyHat", "firstPast", "I", false)
  | 15 => ("EmptyHat", "pastActs", "I", false)
  | _ => ("EmptyHat", "seed", "I", false)
def tyX11 : Nat → FieldType := fun k => match k with
  | 0 => .object "EmptyHat$Text"
  | 1 => .object "EmptyHat$Crown"
  | 2 => .object "EmptyHat$Crown"
  | 3 => .object "EmptyHat$CrownReader"
  | 4 => .object "EmptyHat$Question"
  | 5 => .object "EmptyHat$Stage"
  | 6 => .object "EmptyHat$Ahead"
  | 7 => .object "EmptyHat$Counted"
  | 8 => .object "EmptyHat$Image"
  | 9 => .object "EmptyHat$State"
  | 10 => .object "EmptyHat$State"
  | 11 => .array (.object "EmptyHat$State")
  | 12 => .array .int
  | 13 => .boolean
  | 14 => .int
  | 15 => .int
  | _ => .int
abbrev wsX110 : List Cond := u_ws RX11 TX11 17
theorem nmX11 : ∀ a, a < 17 → ∀ b, b < 17 → a ≠ b → (TX11 a).2.1 ≠ (TX11 b).2.1 := by decide +kernel
theorem tyX11_ok : ∀ k, k < 17 → parseFieldDescriptor (TX11 k).2.2.1 = some (tyX11 k) := by decide +kernel
abbrev cX11_init : ByteArray := prog_1_method_1_code
def yX11_init : MethodName := ⟨RX11, "<init>", "()V"⟩
abbrev cX11_feed : ByteArray := prog_1_method_2_code
def yX11_feed : MethodName := ⟨RX11, "feed", "(IIIII)I"⟩
abbrev cX11_end : ByteArray := prog_1_method_3_code
def yX11_end : MethodName := ⟨RX11, "end", "(I)Z"⟩
abbrev cX11_crown : ByteArray := prog_1_method_4_code
def yX11_crown : MethodName := ⟨RX11, "crown", "()I"⟩
abbrev cX11_fault : ByteArray := prog_1_method_5_code
def yX11_fault : MethodName := ⟨RX11, "fault", "(I)I"⟩
abbrev cX11_has : ByteArray := prog_1_method_6_code
def yX11_has : MethodName := ⟨RX11, "has", "(I)I"⟩
abbrev cX11_letter : ByteArray := prog_1_method_7_code
def yX11_letter : MethodName := ⟨RX11, "letter", "(III)I"⟩
abbrev cX11_province : ByteArray := prog_1_method_8_code
def yX11_province : MethodName := ⟨RX11, "province", "(II)I"⟩
abbrev cX11_trick : ByteArray := prog_1_method_9_code
def yX11_trick : MethodName := ⟨RX11, "trick", "(II)I"⟩
abbrev cX11_watcher : ByteArray := prog_1_method_10_code
def yX11_watcher : MethodName := ⟨RX11, "watcher", "(II)I"⟩
abbrev cX11_sight : ByteArray := prog_1_method_11_code
def yX11_sight : MethodName := ⟨RX11, "sight", "(II)I"⟩
abbrev cX11_kept : ByteArray := prog_1_method_12_code
def yX11_kept : MethodName := ⟨RX11, "kept", "(II)I"⟩
abbrev cX11_best : ByteArray := prog_1_method_13_code
def yX11_best : MethodName := ⟨RX11, "best", "(I)I"⟩
abbrev cX11_appears : ByteArray := prog_1_method_14_code
def yX11_appears : MethodName := ⟨RX11, "appears", "(I)I"⟩
abbrev cX11_later : ByteArray := prog_1_method_15_code
def yX11_later : MethodName := ⟨RX11, "later", "(II)I"⟩
abbrev cX11_curtain : ByteArray := prog_1_method_16_code
def yX11_curtain : MethodName := ⟨RX11, "curtain", "()I"⟩
abbrev cX11_both : ByteArray := prog_1_method_17_code
def yX11_both : MethodName := ⟨RX11, "both", "(I)I"⟩
abbrev cX11_drop : ByteArray := prog_1_method_18_code
def yX11_drop : MethodName := ⟨RX11, "drop", "(I)I"⟩
abbrev cX11_count : ByteArray := prog_1_method_19_code
def yX11_count : MethodName := ⟨RX11, "count", "()I"⟩
abbrev cX11_shows : ByteArray := prog_1_method_20_code
def yX11_shows : MethodName := ⟨RX11, "shows", "(I)I"⟩
abbrev cX11_where : ByteArray := prog_1_method_21_code
def yX11_where : MethodName := ⟨RX11, "where", "(I)I"⟩
abbrev cX11_watch : ByteArray := prog_1_method_22_code
def yX11_watch : MethodName := ⟨RX11, "watch", "(I)I"⟩
abbrev cX11_seat : ByteArray := prog_1_method_23_code
def yX11_seat : MethodName := ⟨RX11, "seat", "(I)I"⟩
abbrev cX11_show : ByteArray := prog_1_method_24_code
def yX11_show : MethodName := ⟨RX11, "show", "(I)I"⟩
abbrev cX11_sit : ByteArray := prog_1_method_25_code
def yX11_sit : MethodName := ⟨RX11, "sit", "(II)Z"⟩
abbrev cX11_move : ByteArray := prog_1_method_26_code
def yX11_move : MethodName := ⟨RX11, "move", "(III)Z"⟩
abbrev cX11_years : ByteArray := prog_1_method_27_code
def yX11_years : MethodName := ⟨RX11, "years", "(I)I"⟩
abbrev cX11_chance : ByteArray := prog_1_method_28_code
def yX11_chance : MethodName := ⟨RX11, "chance", "(I)I"⟩
abbrev cX11_undo : ByteArray := prog_1_method_29_code
def yX11_undo : MethodName := ⟨RX11, "undo", "()Z"⟩
abbrev cX11_seed : ByteArray := prog_1_method_30_code
def yX11_seed : MethodName := ⟨RX11, "seed", "(I)Z"⟩
abbrev cX11_ask : ByteArray := prog_1_method_31_code
def yX11_ask : MethodName := ⟨RX11, "ask", "()J"⟩
abbrev cX11_image : ByteArray := prog_1_method_32_code
def yX11_image : MethodName := ⟨RX11, "image", "()I"⟩
abbrev cX11_octet : ByteArray := prog_1_method_33_code
def yX11_octet : MethodName := ⟨RX11, "octet", "(I)I"⟩
abbrev cX11_on : ByteArray := prog_1_method_34_code
def yX11_on : MethodName := ⟨RX11, "on", "()Z"⟩
abbrev cX11_status : ByteArray := prog_1_method_35_code
def yX11_status : MethodName := ⟨RX11, "status", "(I)I"⟩
abbrev cX11_refuse : ByteArray := prog_1_method_36_code
def yX11_refuse : MethodName := ⟨RX11, "refuse", "(I)I"⟩
abbrev cX11_refuses : ByteArray := prog_1_method_37_code
def yX11_refuses : MethodName := ⟨RX11, "refuses", "(I)Z"⟩
abbrev cX11_canGive : ByteArray := prog_1_method_38_code
def yX11_canGive : MethodName := ⟨RX11, "canGive", "(I)Z"⟩
abbrev cX11_canPass : ByteArray := prog_1_method_39_code
def yX11_canPass : MethodName := ⟨RX11, "canPass", "(I)Z"⟩
abbrev cX11_findCounted : ByteArray := prog_1_method_40_code
def yX11_findCounted : MethodName := ⟨RX11, "findCounted", "()V"⟩
abbrev cX11_remember : ByteArray := prog_1_method_41_code
def yX11_remember : MethodName := ⟨RX11, "remember", "()V"⟩
abbrev cX11_forgetPast : ByteArray := prog_1_method_42_code
def yX11_forgetPast : MethodName := ⟨RX11, "forgetPast", "()V"⟩
abbrev cX11_boyTells : ByteArray := prog_1_method_43_code
def yX11_boyTells : MethodName := ⟨RX11, "boyTells", "()Z"⟩
abbrev cX11_draw : ByteArray := prog_1_method_44_code
def yX11_draw : MethodName := ⟨RX11, "draw", "(I)I"⟩
def RX12 : String := "EmptyHatModel"
def TX12 : u_T := fun k => match k with
  | 0 => ("EmptyHatModel", "tape", "[I", true)
  | 1 => ("EmptyHatModel", "taped", "I", false)
  | 2 => ("EmptyHatModel", "at", "I", false)
  | 3 => ("EmptyHatModel", "end", "I", false)
  | 4 => ("EmptyHatModel", "ended", "I", false)
  | 5 => ("EmptyHatModel", "bad", "I", false)
  | 6 => ("EmptyHatModel", "badPlace", "I", false)
  | 7 => ("EmptyHatModel", "fault", "I", false)
  | 8 => ("EmptyHatModel", "faultPlace", "I", false)
  | 9 => ("EmptyHatModel", "refused", "[I", true)
  | 10 => ("EmptyHatModel", "needWord", "[C", true)
  | 11 => ("EmptyHatModel", "debtWord", "[C", true)
  | 12 => ("EmptyHatModel", "rateWord", "[C", true)
  | 13 => ("EmptyHatModel", "storesWord", "[C", true)
  | 14 => ("EmptyHatModel", "yieldsWord", "[C", true)
  | 15 => ("EmptyHatModel", "trickWord", "[C", true)
  | 16 => ("EmptyHatModel", "takesWord", "[C", true)
  | 17 => ("EmptyHatModel", "fromWord", "[C", true)
  | 18 => ("EmptyHatModel", "lookWord", "[C", true)
  | 19 => ("EmptyHatModel", "watchWord", "[C", true)
  | 20 => ("EmptyHatModel", "seatWord", "[C", true)
  | 21 => ("EmptyHatModel", "glassWord", "[C", true)
  | 22 => ("EmptyHatModel", "seesWord", "[C", true)
  | 23 => ("EmptyHatModel", "losesWord", "[C", true)
  | 24 => ("EmptyHatModel", "beliefWord", "[C", true)
  | 25 => ("EmptyHatModel", "boysWord", "[C", true)
  | 26 => ("EmptyHatModel", "timesWord", "[C", true)
  | 27 => ("EmptyHatModel", "yearWord", "[C", true)
  | 28 => ("EmptyHatModel", "numberWord", "[C", true)
  | 29 => ("EmptyHatModel", "knownWord", "[C", true)
  | 30 => ("EmptyHatModel", "sightWord", "[C", true)
  | 31 => ("EmptyHatModel", "leftWord", "[C", true)
  | 32 => ("EmptyHatModel", "seenWord", "[C", true)
  | 33 => ("EmptyHatModel", "orWord", "[C", true)
  | 34 => ("EmptyHatModel", "andWord", "[C", true)
  | 35 => ("EmptyHatModel", "notWord", "[C", true)
  | 36 => ("EmptyHatModel", "allWord", "[C", true)
  | 37 => ("EmptyHatModel", "minWord", "[C", true)
  | 38 => ("EmptyHatModel", "maxWord", "[C", true)
  | 39 => ("EmptyHatModel", "namePlace", "I", false)
  | 40 => ("EmptyHatModel", "many", "[I", true)
  | 41 => ("EmptyHatModel", "names", "[J", true)
  | 42 => ("EmptyHatModel", "chest", "[I", true)
  | 43 => ("EmptyHatModel", "provinces", "[I", true)
  | 44 => ("EmptyHatModel", "tricks", "[I", true)
  | 45 => ("EmptyHatModel", "watchers", "[I", true)
  | 46 => ("EmptyHatModel", "settings", "[I", true)
  | 47 => ("EmptyHatModel", "codeFrom", "[I", true)
  | 48 => ("EmptyHatModel", "codeEnd", "[I", true)
  | 49 => ("EmptyHatModel", "codes", "[I", true)
  | 50 => ("EmptyHatModel", "coded", "I", false)
  | 51 => ("EmptyHatModel", "statements", "I", false)
  | 52 => ("EmptyHatModel", "isCrown", "Z", false)
  | 53 => ("EmptyHatModel", "textKind", "I", false)
  | 54 => ("EmptyHatModel", "now", "[I", true)
  | 55 => ("EmptyHatModel", "aside", "[I", true)
  | 56 => ("EmptyHatModel", "askSeat", "I", false)
  | 57 => ("EmptyHatModel", "askGlass", "I", false)
  | 58 => ("EmptyHatModel", "askSight", "[I", true)
  | 59 => ("EmptyHatModel", "stores", "[I", true)
  | 60 => ("EmptyHatModel", "sights", "[I", true)
  | 61 => ("EmptyHatModel", "before", "[I", true)
  | 62 => ("EmptyHatModel", "isThought", "Z", false)
  | 63 => ("EmptyHatModel", "enoughMany", "I", false)
  | 64 => ("EmptyHatModel", "appeared", "I", false)
  | 65 => ("EmptyHatModel", "between", "[I", true)
  | 66 => ("EmptyHatModel", "rowMany", "I", false)
  | 67 => ("EmptyHatModel", "rows", "[I", true)
  | 68 => ("EmptyHatModel", "behind", "[I", true)
  | 69 => ("EmptyHatModel", "isShow", "[Z", true)
  | 70 => ("EmptyHatModel", "showMany", "I", false)
  | 71 => ("EmptyHatModel", "kept0", "[I", true)
  | 72 => ("EmptyHatModel", "undoable", "I", false)
  | 73 => ("EmptyHatModel", "newest", "I", false)
  | 74 => ("EmptyHatModel", "seeded", "J", false)
  | 75 => ("EmptyHatModel", "firstAsked", "[C", true)
  | 76 => ("EmptyHatModel", "lastAsked", "[C", true)
  | 77 => ("EmptyHatModel", "oftenAsked", "[C", true)
  | 78 => ("EmptyHatModel", "totalAsked", "[C", true)
  | 79 => ("EmptyHatModel", "mostAsked", "[C", true)
  | 80 => ("EmptyHatModel", "leastAsked", "[C", true)
  | 81 => ("EmptyHatModel", "notAsked", "[C", true)
  | 82 => ("EmptyHatModel", "andAsked", "[C", true)
  | 83 => ("EmptyHatModel", "orAsked", "[C", true)
  | 84 => ("EmptyHatModel", "allAsked", "[C", true)
  | 85 => ("EmptyHatModel", "minAsked", "[C", true)
  | 86 => ("EmptyHatModel", "maxAsked", "[C", true)
  | 87 => ("EmptyHatModel", "lookAsked", "[C", true)
  | 88 => ("EmptyHatModel", "timesAsked", "[C", true)
  | 89 => ("EmptyHatModel", "yearAsked", "[C", true)
  | 90 => ("EmptyHatModel", "seatAsked", "[C", true)
  | 91 => ("EmptyHatModel", "glassAsked", "[C", true)
  | 92 => ("EmptyHatModel", "takesAsked", "[C", true)
  | 93 => ("EmptyHatModel", "beliefAsked", "[C", true)
  | 94 => ("EmptyHatModel", "numberAsked", "[C", true)
  | 95 => ("EmptyHatModel", "knownAsked", "[C", true)
  | 96 => ("EmptyHatModel", "sightAsked", "[C", true)
  | 97 => ("EmptyHatModel", "leftAsked", "[C", true)
  | 98 => ("EmptyHatModel", "seenAsked", "[C", true)
  | 99 => ("EmptyHatModel", "qCodes", "[I", true)
  | 100 => ("EmptyHatModel", "qCoded", "I", false)
  | 101 => ("EmptyHatModel", "qWait", "[I", true)
  | 102 => ("EmptyHatModel", "qWaits", "I", false)
  | 103 => ("EmptyHatModel", "qOpened", "I", false)
  | 104 => ("EmptyHatModel", "qBase", "I", false)
  | 105 => ("EmptyHatModel", "qPile", "[J", true)
  | 106 => ("EmptyHatModel", "qPiled", "I", false)
  | 107 => ("EmptyHatModel", "qAnswer", "J", false)
  | 108 => ("EmptyHatModel", "qIsNew", "Z", false)
  | 109 => ("EmptyHatModel", "octet", "[I", true)
  | _ => ("EmptyHatModel", "octets", "I", false)
def tyX12 : Nat → FieldType := fun k => match k with
  | 0 => .array .int
  | 1 => .int
  | 2 => .int
  | 3 => .int
  | 4 => .int
  | 5 => .int
  | 6 => .int
  | 7 => .int
  | 8 => .int
  | 9 => .array .int
  | 10 => .array .char
  | 11 => .array .char
  | 12 => .array .char
  | 13 => .array .char
  | 14 => .array .char
  | 15 => .array .char
  | 16 => .array .char
  | 17 => .array .char
  | 18 => .array .char
  | 19 => .array .char
  | 20 => .array .char
  | 21 => .array .char
  | 22 => .array .char
  | 23 => .array .char
  | 24 => .array .char
  | 25 => .array .char
  | 26 => .array .char
  | 27 => .array .char
  | 28 => .array .char
  | 29 => .array .char
  | 30 => .array .char
  | 31 => .array .char
  | 32 => .array .char
  | 33 => .array .char
  | 34 => .array .char
  | 35 => .array .char
  | 36 => .array .char
  | 37 => .array .char
  | 38 => .array .char
  | 39 => .int
  | 40 => .array .int
  | 41 => .array .long
  | 42 => .array .int
  | 43 => .array .int
  | 44 => .array .int
  | 45 => .array .int
  | 46 => .array .int
  | 47 => .array .int
  | 48 => .array .int
  | 49 => .array .int
  | 50 => .int
  | 51 => .int
  | 52 => .boolean
  | 53 => .int
  | 54 => .array .int
  | 55 => .array .int
  | 56 => .int
  | 57 => .int
  | 58 => .array .int
  | 59 => .array .int
  | 60 => .array .int
  | 61 => .array .int
  | 62 => .boolean
  | 63 => .int
  | 64 => .int
  | 65 => .array .int
  | 66 => .int
  | 67 => .array .int
  | 68 => .array .int
  | 69 => .array .boolean
  | 70 => .int
  | 71 => .array .int
  | 72 => .int
  | 73 => .int
  | 74 => .long
  | 75 => .array .char
  | 76 => .array .char
  | 77 => .array .char
  | 78 => .array .char
  | 79 => .array .char
  | 80 => .array .char
  | 81 => .array .char
  | 82 => .array .char
  | 83 => .array .char
  | 84 => .array .char
  | 85 => .array .char
  | 86 => .array .char
  | 87 => .array .char
  | 88 => .array .char
  | 89 => .array .char
  | 90 => .array .char
  | 91 => .array .char
  | 92 => .array .char
  | 93 => .array .char
  | 94 => .array .char
  | 95 => .array .char
  | 96 => .array .char
  | 97 => .array .char
  | 98 => .array .char
  | 99 => .array .int
  | 100 => .int
  | 101 => .array .int
  | 102 => .int
  | 103 => .int
  | 104 => .int
  | 105 => .array .long
  | 106 => .int
  | 107 => .long
  | 108 => .boolean
  | 109 => .array .int
  | _ => .int
abbrev wsX120 : List Cond := u_ws RX12 TX12 111
theorem nmX12 : ∀ a, a < 111 → ∀ b, b < 111 → a ≠ b → (TX12 a).2.1 ≠ (TX12 b).2.1 := by decide +kernel
theorem tyX12_ok : ∀ k, k < 111 → parseFieldDescriptor (TX12 k).2.2.1 = some (tyX12 k) := by decide +kernel
abbrev cX12_init : ByteArray := prog_14_method_1_code
def yX12_init : MethodName := ⟨RX12, "<init>", "()V"⟩
abbrev cX12_isIn : ByteArray := prog_14_method_2_code
def yX12_isIn : MethodName := ⟨RX12, "isIn", "(JJJ)Z"⟩
abbrev cX12_feed : ByteArray := prog_14_method_3_code
def yX12_feed : MethodName := ⟨RX12, "feed", "(IIIII)I"⟩
abbrev cX12_end : ByteArray := prog_14_method_4_code
def yX12_end : MethodName := ⟨RX12, "end", "(I)Z"⟩
abbrev cX12_fail : ByteArray := prog_14_method_5_code
def yX12_fail : MethodName := ⟨RX12, "fail", "(II)V"⟩
abbrev cX12_isLetter : ByteArray := prog_14_method_6_code
def yX12_isLetter : MethodName := ⟨RX12, "isLetter", "(I)Z"⟩
abbrev cX12_isDigit : ByteArray := prog_14_method_7_code
def yX12_isDigit : MethodName := ⟨RX12, "isDigit", "(I)Z"⟩
abbrev cX12_look0 : ByteArray := prog_14_method_8_code
def yX12_look0 : MethodName := ⟨RX12, "look0", "()I"⟩
abbrev cX12_isHere : ByteArray := prog_14_method_9_code
def yX12_isHere : MethodName := ⟨RX12, "isHere", "([C)Z"⟩
abbrev cX12_takes : ByteArray := prog_14_method_10_code
def yX12_takes : MethodName := ⟨RX12, "takes", "([C)Z"⟩
abbrev cX12_asks : ByteArray := prog_14_method_11_code
def yX12_asks : MethodName := ⟨RX12, "asks", "([C)V"⟩
abbrev cX12_takesSign : ByteArray := prog_14_method_12_code
def yX12_takesSign : MethodName := ⟨RX12, "takesSign", "(I)Z"⟩
abbrev cX12_asksSign : ByteArray := prog_14_method_13_code
def yX12_asksSign : MethodName := ⟨RX12, "asksSign", "(I)V"⟩
abbrev cX12_number : ByteArray := prog_14_method_14_code
def yX12_number : MethodName := ⟨RX12, "number", "(II)I"⟩
abbrev cX12_isOwnHere : ByteArray := prog_14_method_15_code
def yX12_isOwnHere : MethodName := ⟨RX12, "isOwnHere", "()Z"⟩
abbrev cX12_name : ByteArray := prog_14_method_16_code
def yX12_name : MethodName := ⟨RX12, "name", "()J"⟩
abbrev cX12_isAllowed : ByteArray := prog_14_method_17_code
def yX12_isAllowed : MethodName := ⟨RX12, "isAllowed", "(I)Z"⟩
abbrev cX12_isFull : ByteArray := prog_14_method_18_code
def yX12_isFull : MethodName := ⟨RX12, "isFull", "(III)Z"⟩
abbrev cX12_nameOf : ByteArray := prog_14_method_19_code
def yX12_nameOf : MethodName := ⟨RX12, "nameOf", "(IJ)I"⟩
abbrev cX12_newName : ByteArray := prog_14_method_20_code
def yX12_newName : MethodName := ⟨RX12, "newName", "()J"⟩
abbrev cX12_adds : ByteArray := prog_14_method_21_code
def yX12_adds : MethodName := ⟨RX12, "adds", "(IJ)I"⟩
abbrev cX12_chestTold : ByteArray := prog_14_method_22_code
def yX12_chestTold : MethodName := ⟨RX12, "chestTold", "()V"⟩
abbrev cX12_provinceTold : ByteArray := prog_14_method_23_code
def yX12_provinceTold : MethodName := ⟨RX12, "provinceTold", "(I)V"⟩
abbrev cX12_trickTold : ByteArray := prog_14_method_24_code
def yX12_trickTold : MethodName := ⟨RX12, "trickTold", "(I)V"⟩
abbrev cX12_watcherTold : ByteArray := prog_14_method_25_code
def yX12_watcherTold : MethodName := ⟨RX12, "watcherTold", "(I)V"⟩
abbrev cX12_codesTold : ByteArray := prog_14_method_26_code
def yX12_codesTold : MethodName := ⟨RX12, "codesTold", "(II)V"⟩
abbrev cX12_statementTold : ByteArray := prog_14_method_27_code
def yX12_statementTold : MethodName := ⟨RX12, "statementTold", "()V"⟩
abbrev cX12_crown : ByteArray := prog_14_method_28_code
def yX12_crown : MethodName := ⟨RX12, "crown", "()I"⟩
abbrev cX12_stands : ByteArray := prog_14_method_29_code
def yX12_stands : MethodName := ⟨RX12, "stands", "()V"⟩
abbrev cX12_fault : ByteArray := prog_14_method_30_code
def yX12_fault : MethodName := ⟨RX12, "fault", "(I)I"⟩
abbrev cX12_provinceMany : ByteArray := prog_14_method_31_code
def yX12_provinceMany : MethodName := ⟨RX12, "provinceMany", "()I"⟩
abbrev cX12_trickMany : ByteArray := prog_14_method_32_code
def yX12_trickMany : MethodName := ⟨RX12, "trickMany", "()I"⟩
abbrev cX12_watcherMany : ByteArray := prog_14_method_33_code
def yX12_watcherMany : MethodName := ⟨RX12, "watcherMany", "()I"⟩
abbrev cX12_isProvince : ByteArray := prog_14_method_34_code
def yX12_isProvince : MethodName := ⟨RX12, "isProvince", "(I)Z"⟩
abbrev cX12_isTrick : ByteArray := prog_14_method_35_code
def yX12_isTrick : MethodName := ⟨RX12, "isTrick", "(I)Z"⟩
abbrev cX12_isWatcher : ByteArray := prog_14_method_36_code
def yX12_isWatcher : MethodName := ⟨RX12, "isWatcher", "(I)Z"⟩
abbrev cX12_timesOf : ByteArray := prog_14_method_37_code
def yX12_timesOf : MethodName := ⟨RX12, "timesOf", "(I)I"⟩
abbrev cX12_knownOf : ByteArray := prog_14_method_38_code
def yX12_knownOf : MethodName := ⟨RX12, "knownOf", "(I)I"⟩
abbrev cX12_seatOf : ByteArray := prog_14_method_39_code
def yX12_seatOf : MethodName := ⟨RX12, "seatOf", "(I)I"⟩
abbrev cX12_codesTell : ByteArray := prog_14_method_40_code
def yX12_codesTell : MethodName := ⟨RX12, "codesTell", "(II)J"⟩
abbrev cX12_sightBy : ByteArray := prog_14_method_41_code
def yX12_sightBy : MethodName := ⟨RX12, "sightBy", "(III)I"⟩
abbrev cX12_sightOf : ByteArray := prog_14_method_42_code
def yX12_sightOf : MethodName := ⟨RX12, "sightOf", "(I)I"⟩
abbrev cX12_sightAll : ByteArray := prog_14_method_43_code
def yX12_sightAll : MethodName := ⟨RX12, "sightAll", "(II)I"⟩
abbrev cX12_throughSet : ByteArray := prog_14_method_44_code
def yX12_throughSet : MethodName := ⟨RX12, "throughSet", "()I"⟩
abbrev cX12_allTricks : ByteArray := prog_14_method_45_code
def yX12_allTricks : MethodName := ⟨RX12, "allTricks", "()I"⟩
abbrev cX12_canShow : ByteArray := prog_14_method_46_code
def yX12_canShow : MethodName := ⟨RX12, "canShow", "(I)Z"⟩
abbrev cX12_bits : ByteArray := prog_14_method_47_code
def yX12_bits : MethodName := ⟨RX12, "bits", "(I)I"⟩
abbrev cX12_yieldsCome : ByteArray := prog_14_method_48_code
def yX12_yieldsCome : MethodName := ⟨RX12, "yieldsCome", "()V"⟩
abbrev cX12_yieldsGoBack : ByteArray := prog_14_method_49_code
def yX12_yieldsGoBack : MethodName := ⟨RX12, "yieldsGoBack", "()V"⟩
abbrev cX12_yieldsComeNow : ByteArray := prog_14_method_50_code
def yX12_yieldsComeNow : MethodName := ⟨RX12, "yieldsComeNow", "()V"⟩
abbrev cX12_appearsBy : ByteArray := prog_14_method_51_code
def yX12_appearsBy : MethodName := ⟨RX12, "appearsBy", "(I)I"⟩
abbrev cX12_sightBySet : ByteArray := prog_14_method_52_code
def yX12_sightBySet : MethodName := ⟨RX12, "sightBySet", "(I)I"⟩
abbrev cX12_laysSights : ByteArray := prog_14_method_53_code
def yX12_laysSights : MethodName := ⟨RX12, "laysSights", "()V"⟩
abbrev cX12_isBetter : ByteArray := prog_14_method_54_code
def yX12_isBetter : MethodName := ⟨RX12, "isBetter", "(II)Z"⟩
abbrev cX12_bestShow : ByteArray := prog_14_method_55_code
def yX12_bestShow : MethodName := ⟨RX12, "bestShow", "()I"⟩
abbrev cX12_isKept : ByteArray := prog_14_method_56_code
def yX12_isKept : MethodName := ⟨RX12, "isKept", "(I)V"⟩
abbrev cX12_isSeenThrough : ByteArray := prog_14_method_57_code
def yX12_isSeenThrough : MethodName := ⟨RX12, "isSeenThrough", "(I)V"⟩
abbrev cX12_showGoes : ByteArray := prog_14_method_58_code
def yX12_showGoes : MethodName := ⟨RX12, "showGoes", "(I)V"⟩
abbrev cX12_debtGoes : ByteArray := prog_14_method_59_code
def yX12_debtGoes : MethodName := ⟨RX12, "debtGoes", "()V"⟩
abbrev cX12_yearEnds : ByteArray := prog_14_method_60_code
def yX12_yearEnds : MethodName := ⟨RX12, "yearEnds", "(I)V"⟩
abbrev cX12_yearGoes : ByteArray := prog_14_method_61_code
def yX12_yearGoes : MethodName := ⟨RX12, "yearGoes", "()V"⟩
abbrev cX12_yearsGo : ByteArray := prog_14_method_62_code
def yX12_yearsGo : MethodName := ⟨RX12, "yearsGo", "(I)V"⟩
abbrev cX12_putsAside : ByteArray := prog_14_method_63_code
def yX12_putsAside : MethodName := ⟨RX12, "putsAside", "()V"⟩
abbrev cX12_triesAnew : ByteArray := prog_14_method_64_code
def yX12_triesAnew : MethodName := ⟨RX12, "triesAnew", "()V"⟩
abbrev cX12_takesBack : ByteArray := prog_14_method_65_code
def yX12_takesBack : MethodName := ⟨RX12, "takesBack", "()V"⟩
abbrev cX12_isAhead : ByteArray := prog_14_method_66_code
def yX12_isAhead : MethodName := ⟨RX12, "isAhead", "(III)Z"⟩
abbrev cX12_storesAll : ByteArray := prog_14_method_67_code
def yX12_storesAll : MethodName := ⟨RX12, "storesAll", "()I"⟩
abbrev cX12_has : ByteArray := prog_14_method_68_code
def yX12_has : MethodName := ⟨RX12, "has", "(I)I"⟩
abbrev cX12_letter : ByteArray := prog_14_method_69_code
def yX12_letter : MethodName := ⟨RX12, "letter", "(III)I"⟩
abbrev cX12_province : ByteArray := prog_14_method_70_code
def yX12_province : MethodName := ⟨RX12, "province", "(II)I"⟩
abbrev cX12_trick : ByteArray := prog_14_method_71_code
def yX12_trick : MethodName := ⟨RX12, "trick", "(II)I"⟩
abbrev cX12_watcher : ByteArray := prog_14_method_72_code
def yX12_watcher : MethodName := ⟨RX12, "watcher", "(II)I"⟩
abbrev cX12_sight : ByteArray := prog_14_method_73_code
def yX12_sight : MethodName := ⟨RX12, "sight", "(II)I"⟩
abbrev cX12_kept : ByteArray := prog_14_method_74_code
def yX12_kept : MethodName := ⟨RX12, "kept", "(II)I"⟩
abbrev cX12_best : ByteArray := prog_14_method_75_code
def yX12_best : MethodName := ⟨RX12, "best", "(I)I"⟩
abbrev cX12_appears : ByteArray := prog_14_method_76_code
def yX12_appears : MethodName := ⟨RX12, "appears", "(I)I"⟩
abbrev cX12_later : ByteArray := prog_14_method_77_code
def yX12_later : MethodName := ⟨RX12, "later", "(II)I"⟩
abbrev cX12_curtain : ByteArray := prog_14_method_78_code
def yX12_curtain : MethodName := ⟨RX12, "curtain", "()I"⟩
abbrev cX12_both : ByteArray := prog_14_method_79_code
def yX12_both : MethodName := ⟨RX12, "both", "(I)I"⟩
abbrev cX12_drop : ByteArray := prog_14_method_80_code
def yX12_drop : MethodName := ⟨RX12, "drop", "(I)I"⟩
abbrev cX12_refuses : ByteArray := prog_14_method_81_code
def yX12_refuses : MethodName := ⟨RX12, "refuses", "(I)I"⟩
abbrev cX12_count : ByteArray := prog_14_method_82_code
def yX12_count : MethodName := ⟨RX12, "count", "()I"⟩
abbrev cX12_isAsCounted : ByteArray := prog_14_method_83_code
def yX12_isAsCounted : MethodName := ⟨RX12, "isAsCounted", "()Z"⟩
abbrev cX12_laysShows : ByteArray := prog_14_method_84_code
def yX12_laysShows : MethodName := ⟨RX12, "laysShows", "()V"⟩
abbrev cX12_shows : ByteArray := prog_14_method_85_code
def yX12_shows : MethodName := ⟨RX12, "shows", "(I)I"⟩
abbrev cX12_alike : ByteArray := prog_14_method_86_code
def yX12_alike : MethodName := ⟨RX12, "alike", "(II)I"⟩
abbrev cX12_where : ByteArray := prog_14_method_87_code
def yX12_where : MethodName := ⟨RX12, "where", "(I)I"⟩
abbrev cX12_doWatch : ByteArray := prog_14_method_88_code
def yX12_doWatch : MethodName := ⟨RX12, "doWatch", "(II)Z"⟩
abbrev cX12_watch : ByteArray := prog_14_method_89_code
def yX12_watch : MethodName := ⟨RX12, "watch", "(I)I"⟩
abbrev cX12_seat : ByteArray := prog_14_method_90_code
def yX12_seat : MethodName := ⟨RX12, "seat", "(I)I"⟩
abbrev cX12_keeps : ByteArray := prog_14_method_91_code
def yX12_keeps : MethodName := ⟨RX12, "keeps", "()V"⟩
abbrev cX12_undo : ByteArray := prog_14_method_92_code
def yX12_undo : MethodName := ⟨RX12, "undo", "()Z"⟩
abbrev cX12_isRefused : ByteArray := prog_14_method_93_code
def yX12_isRefused : MethodName := ⟨RX12, "isRefused", "()Z"⟩
abbrev cX12_show : ByteArray := prog_14_method_94_code
def yX12_show : MethodName := ⟨RX12, "show", "(I)I"⟩
abbrev cX12_sit : ByteArray := prog_14_method_95_code
def yX12_sit : MethodName := ⟨RX12, "sit", "(II)Z"⟩
abbrev cX12_move : ByteArray := prog_14_method_96_code
def yX12_move : MethodName := ⟨RX12, "move", "(III)Z"⟩
abbrev cX12_years : ByteArray := prog_14_method_97_code
def yX12_years : MethodName := ⟨RX12, "years", "(I)I"⟩
abbrev cX12_seed : ByteArray := prog_14_method_98_code
def yX12_seed : MethodName := ⟨RX12, "seed", "(I)Z"⟩
abbrev cX12_drawOf : ByteArray := prog_14_method_99_code
def yX12_drawOf : MethodName := ⟨RX12, "drawOf", "(I)I"⟩
abbrev cX12_chance : ByteArray := prog_14_method_100_code
def yX12_chance : MethodName := ⟨RX12, "chance", "(I)I"⟩
abbrev cX12_qCode : ByteArray := prog_14_method_101_code
def yX12_qCode : MethodName := ⟨RX12, "qCode", "(I)V"⟩
abbrev cX12_qOpens : ByteArray := prog_14_method_102_code
def yX12_qOpens : MethodName := ⟨RX12, "qOpens", "(II)V"⟩
abbrev cX12_qIsOn : ByteArray := prog_14_method_103_code
def yX12_qIsOn : MethodName := ⟨RX12, "qIsOn", "(I)Z"⟩
abbrev cX12_qDrops : ByteArray := prog_14_method_104_code
def yX12_qDrops : MethodName := ⟨RX12, "qDrops", "()V"⟩
abbrev cX12_qIsBracket : ByteArray := prog_14_method_105_code
def yX12_qIsBracket : MethodName := ⟨RX12, "qIsBracket", "(I)Z"⟩
abbrev cX12_qBracket : ByteArray := prog_14_method_106_code
def yX12_qBracket : MethodName := ⟨RX12, "qBracket", "()I"⟩
abbrev cX12_qDropsToBracket : ByteArray := prog_14_method_107_code
def yX12_qDropsToBracket : MethodName := ⟨RX12, "qDropsToBracket", "()V"⟩
abbrev cX12_qWordHere : ByteArray := prog_14_method_108_code
def yX12_qWordHere : MethodName := ⟨RX12, "qWordHere", "()I"⟩
abbrev cX12_qWordOf : ByteArray := prog_14_method_109_code
def yX12_qWordOf : MethodName := ⟨RX12, "qWordOf", "(II)I"⟩
abbrev cX12_qAsksWord : ByteArray := prog_14_method_110_code
def yX12_qAsksWord : MethodName := ⟨RX12, "qAsksWord", "(I)V"⟩
abbrev cX12_qEndsPart : ByteArray := prog_14_method_111_code
def yX12_qEndsPart : MethodName := ⟨RX12, "qEndsPart", "()V"⟩
abbrev cX12_qPartTold : ByteArray := prog_14_method_112_code
def yX12_qPartTold : MethodName := ⟨RX12, "qPartTold", "()V"⟩
abbrev cX12_qGoesOn : ByteArray := prog_14_method_113_code
def yX12_qGoesOn : MethodName := ⟨RX12, "qGoesOn", "()Z"⟩
abbrev cX12_qSums : ByteArray := prog_14_method_114_code
def yX12_qSums : MethodName := ⟨RX12, "qSums", "()V"⟩
abbrev cX12_qFact : ByteArray := prog_14_method_115_code
def yX12_qFact : MethodName := ⟨RX12, "qFact", "()V"⟩
abbrev cX12_qHasSquare : ByteArray := prog_14_method_116_code
def yX12_qHasSquare : MethodName := ⟨RX12, "qHasSquare", "()Z"⟩
abbrev cX12_qDropsNots : ByteArray := prog_14_method_117_code
def yX12_qDropsNots : MethodName := ⟨RX12, "qDropsNots", "()V"⟩
abbrev cX12_qTest : ByteArray := prog_14_method_118_code
def yX12_qTest : MethodName := ⟨RX12, "qTest", "()V"⟩
abbrev cX12_qGoesOnTest : ByteArray := prog_14_method_119_code
def yX12_qGoesOnTest : MethodName := ⟨RX12, "qGoesOnTest", "()Z"⟩
abbrev cX12_qClip : ByteArray := prog_14_method_120_code
def yX12_qClip : MethodName := ⟨RX12, "qClip", "(J)J"⟩
abbrev cX12_qFloor : ByteArray := prog_14_method_121_code
def yX12_qFloor : MethodName := ⟨RX12, "qFloor", "(JJ)J"⟩
abbrev cX12_qPuts : ByteArray := prog_14_method_122_code
def yX12_qPuts : MethodName := ⟨RX12, "qPuts", "(J)V"⟩
abbrev cX12_qJoins : ByteArray := prog_14_method_123_code
def yX12_qJoins : MethodName := ⟨RX12, "qJoins", "(I)V"⟩
abbrev cX12_qPartOf : ByteArray := prog_14_method_124_code
def yX12_qPartOf : MethodName := ⟨RX12, "qPartOf", "(II)J"⟩
abbrev cX12_qOf : ByteArray := prog_14_method_125_code
def yX12_qOf : MethodName := ⟨RX12, "qOf", "(IJI)J"⟩
abbrev cX12_qTold : ByteArray := prog_14_method_126_code
def yX12_qTold : MethodName := ⟨RX12, "qTold", "(I)J"⟩
abbrev cX12_qKind : ByteArray := prog_14_method_127_code
def yX12_qKind : MethodName := ⟨RX12, "qKind", "()I"⟩
abbrev cX12_qTakes : ByteArray := prog_14_method_128_code
def yX12_qTakes : MethodName := ⟨RX12, "qTakes", "(IJI)V"⟩
abbrev cX12_ask : ByteArray := prog_14_method_129_code
def yX12_ask : MethodName := ⟨RX12, "ask", "()J"⟩
abbrev cX12_checked : ByteArray := prog_14_method_130_code
def yX12_checked : MethodName := ⟨RX12, "checked", "([II)I"⟩
abbrev cX12_writes : ByteArray := prog_14_method_131_code
def yX12_writes : MethodName := ⟨RX12, "writes", "(I)V"⟩
abbrev cX12_writesTwo : ByteArray := prog_14_method_132_code
def yX12_writesTwo : MethodName := ⟨RX12, "writesTwo", "(I)V"⟩
abbrev cX12_image : ByteArray := prog_14_method_133_code
def yX12_image : MethodName := ⟨RX12, "image", "()I"⟩
abbrev cX12_octet : ByteArray := prog_14_method_134_code
def yX12_octet : MethodName := ⟨RX12, "octet", "(I)I"⟩
abbrev cX12_twoAt : ByteArray := prog_14_method_135_code
def yX12_twoAt : MethodName := ⟨RX12, "twoAt", "(I)I"⟩
abbrev cX12_isImage : ByteArray := prog_14_method_136_code
def yX12_isImage : MethodName := ⟨RX12, "isImage", "(I)Z"⟩
abbrev cX12_on : ByteArray := prog_14_method_137_code
def yX12_on : MethodName := ⟨RX12, "on", "()Z"⟩
abbrev cX12_status : ByteArray := prog_14_method_138_code
def yX12_status : MethodName := ⟨RX12, "status", "(I)I"⟩
def RJx145de : String := "java/io/Serializable"
def TJx145de : u_T := fun k => match k with
  | _ => ("", "", "", false)
def tyJx145de : Nat → FieldType := fun k => match k with
  | _ => .int
abbrev wsJx145de0 : List Cond := u_ws RJx145de TJx145de 0
theorem nmJx145de : ∀ a, a < 0 → ∀ b, b < 0 → a ≠ b → (TJx145de a).2.1 ≠ (TJx145de b).2.1 := by decide +kernel
theorem tyJx145de_ok : ∀ k, k < 0 → parseFieldDescriptor (TJx145de k).2.2.1 = some (tyJx145de k) := by decide +kernel
def RJx9f9b0 : String := "java/lang/CharSequence"
def TJx9f9b0 : u_T := fun k => match k with
  | _ => ("", "", "", false)
def tyJx9f9b0 : Nat → FieldType := fun k => match k with
  | _ => .int
abbrev wsJx9f9b00 : List Cond := u_ws RJx9f9b0 TJx9f9b0 0
theorem nmJx9f9b0 : ∀ a, a < 0 → ∀ b, b < 0 → a ≠ b → (TJx9f9b0 a).2.1 ≠ (TJx9f9b0 b).2.1 := by decide +kernel
theorem tyJx9f9b0_ok : ∀ k, k < 0 → parseFieldDescriptor (TJx9f9b0 k).2.2.1 = some (tyJx9f9b0 k) := by decide +kernel
def RJxb160c : String := "java/lang/Comparable"
def TJxb160c : u_T := fun k => match k with
  | _ => ("", "", "", false)
def tyJxb160c : Nat → FieldType := fun k => match k with
  | _ => .int
abbrev wsJxb160c0 : List Cond := u_ws RJxb160c TJxb160c 0
theorem nmJxb160c : ∀ a, a < 0 → ∀ b, b < 0 → a ≠ b → (TJxb160c a).2.1 ≠ (TJxb160c b).2.1 := by decide +kernel
theorem tyJxb160c_ok : ∀ k, k < 0 → parseFieldDescriptor (TJxb160c k).2.2.1 = some (tyJxb160c k) := by decide +kernel
def RJ6 : String := "java/lang/Integer"
def TJ6 : u_T := fun k => match k with
  | _ => ("", "", "", false)
def tyJ6 : Nat → FieldType := fun k => match k with
  | _ => .int
abbrev wsJ60 : List Cond := u_ws RJ6 TJ6 0
theorem nmJ6 : ∀ a, a < 0 → ∀ b, b < 0 → a ≠ b → (TJ6 a).2.1 ≠ (TJ6 b).2.1 := by decide +kernel
theorem tyJ6_ok : ∀ k, k < 0 → parseFieldDescriptor (TJ6 k).2.2.1 = some (tyJ6 k) := by decide +kernel
abbrev cJ6_bitCount_0f7a4 : ByteArray := prog_15_method_49_code
def yJ6_bitCount_0f7a4 : MethodName := ⟨RJ6, "bitCount", "(I)I"⟩
def RJ9 : String := "java/lang/Math"
def TJ9 : u_T := fun k => match k with
  | _ => ("", "", "", false)
def tyJ9 : Nat → FieldType := fun k => match k with
  | _ => .int
abbrev wsJ90 : List Cond := u_ws RJ9 TJ9 0
theorem nmJ9 : ∀ a, a < 0 → ∀ b, b < 0 → a ≠ b → (TJ9 a).2.1 ≠ (TJ9 b).2.1 := by decide +kernel
theorem tyJ9_ok : ∀ k, k < 0 → parseFieldDescriptor (TJ9 k).2.2.1 = some (tyJ9 k) := by decide +kernel
abbrev cJ9_floorDiv_f86c9 : ByteArray := prog_16_method_49_code
def yJ9_floorDiv_f86c9 : MethodName := ⟨RJ9, "floorDiv", "(JJ)J"⟩
abbrev cJ9_max_7cf53 : ByteArray := prog_16_method_65_code
def yJ9_max_7cf53 : MethodName := ⟨RJ9, "max", "(II)I"⟩
abbrev cJ9_max_f86c9 : ByteArray := prog_16_method_66_code
def yJ9_max_f86c9 : MethodName := ⟨RJ9, "max", "(JJ)J"⟩
abbrev cJ9_min_7cf53 : ByteArray := prog_16_method_69_code
def yJ9_min_7cf53 : MethodName := ⟨RJ9, "min", "(II)I"⟩
abbrev cJ9_min_f86c9 : ByteArray := prog_16_method_70_code
def yJ9_min_f86c9 : MethodName := ⟨RJ9, "min", "(JJ)J"⟩
def RJ0 : String := "java/lang/String"
def TJ0 : u_T := fun k => match k with
  | _ => ("", "", "", false)
def tyJ0 : Nat → FieldType := fun k => match k with
  | _ => .int
abbrev wsJ00 : List Cond := u_ws RJ0 TJ0 0
theorem nmJ0 : ∀ a, a < 0 → ∀ b, b < 0 → a ≠ b → (TJ0 a).2.1 ≠ (TJ0 b).2.1 := by decide +kernel
theorem tyJ0_ok : ∀ k, k < 0 → parseFieldDescriptor (TJ0 k).2.2.1 = some (tyJ0 k) := by decide +kernel
abbrev cJ0_charAt_5068e : ByteArray := prog_17_method_56_code
def yJ0_charAt_5068e : MethodName := ⟨RJ0, "charAt", "(I)C"⟩
abbrev cJ0_isLatin1_aae02 : ByteArray := prog_17_method_154_code
def yJ0_isLatin1_aae02 : MethodName := ⟨RJ0, "isLatin1", "()Z"⟩
abbrev cJ0_checkIndex_df160 : ByteArray := prog_17_method_155_code
def yJ0_checkIndex_df160 : MethodName := ⟨RJ0, "checkIndex", "(II)V"⟩
def RJ1 : String := "java/lang/StringLatin1"
def TJ1 : u_T := fun k => match k with
  | _ => ("", "", "", false)
def tyJ1 : Nat → FieldType := fun k => match k with
  | _ => .int
abbrev wsJ10 : List Cond := u_ws RJ1 TJ1 0
theorem nmJ1 : ∀ a, a < 0 → ∀ b, b < 0 → a ≠ b → (TJ1 a).2.1 ≠ (TJ1 b).2.1 := by decide +kernel
theorem tyJ1_ok : ∀ k, k < 0 → parseFieldDescriptor (TJ1 k).2.2.1 = some (tyJ1 k) := by decide +kernel
abbrev cJ1_charAt_3b067 : ByteArray := prog_18_method_2_code
def yJ1_charAt_3b067 : MethodName := ⟨RJ1, "charAt", "([BI)C"⟩
def RJ2 : String := "java/lang/StringUTF16"
def TJ2 : u_T := fun k => match k with
  | _ => ("", "", "", false)
def tyJ2 : Nat → FieldType := fun k => match k with
  | _ => .int
abbrev wsJ20 : List Cond := u_ws RJ2 TJ2 0
theorem nmJ2 : ∀ a, a < 0 → ∀ b, b < 0 → a ≠ b → (TJ2 a).2.1 ≠ (TJ2 b).2.1 := by decide +kernel
theorem tyJ2_ok : ∀ k, k < 0 → parseFieldDescriptor (TJ2 k).2.2.1 = some (tyJ2 k) := by decide +kernel
abbrev cJ2_getChar_3b067 : ByteArray := prog_19_method_5_code
def yJ2_getChar_3b067 : MethodName := ⟨RJ2, "getChar", "([BI)C"⟩
abbrev cJ2_length_9d52b : ByteArray := prog_19_method_6_code
def yJ2_length_9d52b : MethodName := ⟨RJ2, "length", "([B)I"⟩
abbrev cJ2_charAt_3b067 : ByteArray := prog_19_method_83_code
def yJ2_charAt_3b067 : MethodName := ⟨RJ2, "charAt", "([BI)C"⟩
abbrev cJ2_checkIndex_2214a : ByteArray := prog_19_method_91_code
def yJ2_checkIndex_2214a : MethodName := ⟨RJ2, "checkIndex", "(I[B)V"⟩
def RJ10 : String := "java/lang/System"
def TJ10 : u_T := fun k => match k with
  | _ => ("", "", "", false)
def tyJ10 : Nat → FieldType := fun k => match k with
  | _ => .int
abbrev wsJ100 : List Cond := u_ws RJ10 TJ10 0
theorem nmJ10 : ∀ a, a < 0 → ∀ b, b < 0 → a ≠ b → (TJ10 a).2.1 ≠ (TJ10 b).2.1 := by decide +kernel
theorem tyJ10_ok : ∀ k, k < 0 → parseFieldDescriptor (TJ10 k).2.2.1 = some (tyJ10 k) := by decide +kernel
def RJxfd54e : String := "java/lang/constant/Constable"
def TJxfd54e : u_T := fun k => match k with
  | _ => ("", "", "", false)
def tyJxfd54e : Nat → FieldType := fun k => match k with
  | _ => .int
abbrev wsJxfd54e0 : List Cond := u_ws RJxfd54e TJxfd54e 0
theorem nmJxfd54e : ∀ a, a < 0 → ∀ b, b < 0 → a ≠ b → (TJxfd54e a).2.1 ≠ (TJxfd54e b).2.1 := by decide +kernel
theorem tyJxfd54e_ok : ∀ k, k < 0 → parseFieldDescriptor (TJxfd54e k).2.2.1 = some (tyJxfd54e k) := by decide +kernel
def RJx3cf43 : String := "java/lang/constant/ConstantDesc"
def TJx3cf43 : u_T := fun k => match k with
  | _ => ("", "", "", false)
def tyJx3cf43 : Nat → FieldType := fun k => match k with
  | _ => .int
abbrev wsJx3cf430 : List Cond := u_ws RJx3cf43 TJx3cf43 0
theorem nmJx3cf43 : ∀ a, a < 0 → ∀ b, b < 0 → a ≠ b → (TJx3cf43 a).2.1 ≠ (TJx3cf43 b).2.1 := by decide +kernel
theorem tyJx3cf43_ok : ∀ k, k < 0 → parseFieldDescriptor (TJx3cf43 k).2.2.1 = some (tyJx3cf43 k) := by decide +kernel
def RJ7 : String := "java/util/Arrays"
def TJ7 : u_T := fun k => match k with
  | _ => ("", "", "", false)
def tyJ7 : Nat → FieldType := fun k => match k with
  | _ => .int
abbrev wsJ70 : List Cond := u_ws RJ7 TJ7 0
theorem nmJ7 : ∀ a, a < 0 → ∀ b, b < 0 → a ≠ b → (TJ7 a).2.1 ≠ (TJ7 b).2.1 := by decide +kernel
theorem tyJ7_ok : ∀ k, k < 0 → parseFieldDescriptor (TJ7 k).2.2.1 = some (tyJ7 k) := by decide +kernel
abbrev cJ7_fill_53178 : ByteArray := prog_21_method_103_code
def yJ7_fill_53178 : MethodName := ⟨RJ7, "fill", "([II)V"⟩
def RJ3 : String := "jdk/internal/util/Preconditions"
def TJ3 : u_T := fun k => match k with
  | _ => ("", "", "", false)
def tyJ3 : Nat → FieldType := fun k => match k with
  | _ => .int
abbrev wsJ30 : List Cond := u_ws RJ3 TJ3 0
theorem nmJ3 : ∀ a, a < 0 → ∀ b, b < 0 → a ≠ b → (TJ3 a).2.1 ≠ (TJ3 b).2.1 := by decide +kernel
theorem tyJ3_ok : ∀ k, k < 0 → parseFieldDescriptor (TJ3 k).2.2.1 = some (tyJ3 k) := by decide +kernel
abbrev cJ3_checkIndex_8e157 : ByteArray := prog_22_method_11_code
def yJ3_checkIndex_8e157 : MethodName := ⟨RJ3, "checkIndex", "(IILjava/util/function/BiFunction;)I"⟩
def RL : String := "EmptyHatLaw"
abbrev cL_law : ByteArray := code
def yL_law : MethodName := ⟨RL, "law", "([I)Z"⟩
abbrev vwCl : List vw_C := [(RX0, TX0, 16), (RX1, TX1, 9), (RX2, TX2, 16), (RX3, TX3, 5), (RX4, TX4, 3), (RX5, TX5, 3), (RX6, TX6, 5), (RX7, TX7, 3), (RX8, TX8, 8), (RX9, TX9, 9), (RX10, TX10, 11), (RX11, TX11, 17), (RX12, TX12, 111)]
end
section
/-! the heap as plain functions: numbers, longs, pointers, by a cell's number and a place in it -/
/-- the tables' words that stay over a call -/
def gw : List Cond := lw_tbl.filter goodWord
abbrev Hp : Type := (Nat → Nat → Int32) × (Nat → Nat → Int64) × (Nat → Nat → Nat)
abbrev Ev : Type := va_G × (Nat → Nat) × (Nat → ClassId)
/-- a system: its cells' numbers; shape of each (1 an object of a class, 2 .. 8 arrays, their lengths); kinds of a class's fields; pointers that stay; pointer arrays; how many fields -/
abbrev Sy : Type := List Nat × (Nat → Nat × Nat) × (Nat → Nat → Nat) × (Nat → Nat → Nat) × (Nat → Nat → Nat) × (Nat → Nat)
def ho_sI (S : Hp) (a k : Nat) (v : Int32) : Hp := (fun b => if b = a then upd (S.1 a) k v else S.1 b, S.2)
def ho_sJ (S : Hp) (a k : Nat) (v : Int64) : Hp := (S.1, fun b => if b = a then vp_updL (S.2.1 a) k v else S.2.1 b, S.2.2)
def ho_sP (S : Hp) (a k v : Nat) : Hp := (S.1, S.2.1, fun b => if b = a then va_up (S.2.2 a) k v else S.2.2 b)
def ho_v (Y : Sy) (E : Ev) (S : Hp) (a c k : Nat) : Value :=
  if Y.2.2.1 c k = 0 then .int (S.1 a k) else if Y.2.2.1 c k = 1 then .long (S.2.1 a k) else if Y.2.2.1 c k = 2 then .ref (E.2.1 (Y.2.2.2.1 a k)) else .ref (E.2.1 (S.2.2 a k))
def ho_c (Y : Sy) (E : Ev) (S : Hp) (a : Nat) : va_E :=
  if (Y.2.1 a).1 = 1 then .inr ((Y.2.1 a).2, (List.range (Y.2.2.2.2.2 (Y.2.1 a).2)).map (ho_v Y E S a (Y.2.1 a).2))
  else if (Y.2.1 a).1 = 2 then .inl (E.2.2 0, (Y.2.1 a).2, .inl (S.1 a))
  else if (Y.2.1 a).1 = 3 then .inl (E.2.2 1, (Y.2.1 a).2, .inl (S.1 a))
  else if (Y.2.1 a).1 = 4 then .inl (E.2.2 2, (Y.2.1 a).2, .inl (S.1 a))
  else if (Y.2.1 a).1 = 5 then .inl (E.2.2 3, (Y.2.1 a).2, .inr (.inl (S.2.1 a)))
  else if (Y.2.1 a).1 = 6 then .inl (E.2.2 4, (Y.2.1 a).2, .inl (S.1 a))
  else if (Y.2.1 a).1 = 7 then .inl (E.2.2 5, (Y.2.1 a).2, .inr (.inr (.inr (.inr (fun i => some (E.2.1 (Y.2.2.2.2.1 a i)))))))
  else .inl (E.2.2 6, (Y.2.1 a).2, .inr (.inr (.inr (.inr (fun i => some (E.2.1 (Y.2.2.2.2.1 a i)))))))
def ho_w (Y : Sy) (E : Ev) (S : Hp) : va_W := Y.1.map (fun a => (E.2.1 a, ho_c Y E S a))
def ho_t (E : Ev) : List (ClassId × FieldType) := [(E.2.2 0, .byte), (E.2.2 1, .char), (E.2.2 2, .int), (E.2.2 3, .long), (E.2.2 4, .boolean), (E.2.2 5, .object "EmptyHat$State"), (E.2.2 6, .array .int)]
def ho_R (Y : Sy) (E : Ev) (A : Nat → Prop) (s : State) (H0 H : Heap) (locs : List Loc) (S : Hp) : Prop := va_K E.1 vwCl (ho_t E) s ∧ va_P E.1 vwCl (ho_w Y E S) H ∧ va_D A (ho_w Y E S) ∧ va_S A H0 H locs
/-- inside a method -/
abbrev ho_I (p : Program) (s : State) (m : MethodId) (args : Array Value) (meth : Method) (c : Code) (own : String) (cc : ByteArray) (nL : Nat) (ret : Option FieldType) : Prop :=
  p.tables.exec = Jvm.exec ∧ c.code = cc ∧ c.maxLocals = nL ∧ meth.sig.returnType = ret ∧ s.vm.findClass own = some m.cls ∧ (∀ w ∈ gw, w.before args s = true) ∧ meth.locks = false
/-- a class's tables -/
abbrev ho_F (ci : Nat) (Cn : String) (T : u_T) (ty : Nat → FieldType) (N : Nat) : Prop :=
  vwCl[ci]? = some (Cn, T, N) ∧ (∀ w ∈ u_ws Cn T N, w ∈ gw) ∧ (∀ k, k < N → parseFieldDescriptor (T k).2.2.1 = some (ty k)) ∧ (∀ a, a < N → ∀ b, b < N → a ≠ b → (T a).2.1 ≠ (T b).2.1)
theorem ho_at {Y : Sy} {a : Nat} (h : a ∈ Y.1) : ∃ q : Nat, Y.1[q]? = some a ∧ ∀ (E : Ev) (S : Hp), (ho_w Y E S)[q]? = some (E.2.1 a, ho_c Y E S a) := by
  obtain ⟨q, hq⟩ := List.getElem?_of_mem h
  exact ⟨q, hq, fun E S => by unfold ho_w; rw [List.getElem?_map, hq]; rfl⟩
theorem ho_set {Y : Sy} {E : Ev} {A : Nat → Prop} {S S' : Hp} {a q : Nat} (hD : va_D A (ho_w Y E S)) (hq : Y.1[q]? = some a) (hb : ∀ b, b ≠ a → ho_c Y E S' b = ho_c Y E S b) : (ho_w Y E S).set q (E.2.1 a, ho_c Y E S' a) = ho_w Y E S' := by
  apply List.ext_getElem?
  intro i
  have hw : ∀ (S : Hp) (i : Nat), (ho_w Y E S)[i]? = (Y.1[i]?).map (fun a => (E.2.1 a, ho_c Y E S a)) := fun S i => by unfold ho_w; rw [List.getElem?_map]
  rw [List.getElem?_set, hw S', hw S]
  by_cases hi : q = i
  · subst hi
    have hl : q < (ho_w Y E S).length := by unfold ho_w; rw [List.length_map]; exact (List.getElem?_eq_some_iff.mp hq).1
    rw [if_pos rfl, if_pos hl, hq]
    rfl
  · rw [if_neg hi]
    cases hb2 : Y.1[i]? with
    | none => rfl
    | some b =>
      have hne : b ≠ a := fun e => hi (hD.1 q i (E.2.1 a, ho_c Y E S a) (E.2.1 b, ho_c Y E S b) (by rw [hw, hq]; rfl) (by rw [hw, hb2]; rfl) (by rw [e]))
      show some (E.2.1 b, ho_c Y E S b) = some (E.2.1 b, ho_c Y E S' b)
      rw [hb b hne]
theorem ho_cI {Y : Sy} {E : Ev} {S : Hp} {a k : Nat} {v : Int32} : ∀ b, b ≠ a → ho_c Y E (ho_sI S a k v) b = ho_c Y E S b := by
  intro b hb
  have e : (ho_sI S a k v).1 b = S.1 b := if_neg hb
  have e2 : ho_v Y E (ho_sI S a k v) b = ho_v Y E S b := by
    funext c j
    unfold ho_v
    rw [e]
    rfl
  unfold ho_c
  rw [e, e2]
  rfl
theorem ho_cJ {Y : Sy} {E : Ev} {S : Hp} {a k : Nat} {v : Int64} : ∀ b, b ≠ a → ho_c Y E (ho_sJ S a k v) b = ho_c Y E S b := by
  intro b hb
  have e : (ho_sJ S a k v).2.1 b = S.2.1 b := if_neg hb
  have e2 : ho_v Y E (ho_sJ S a k v) b = ho_v Y E S b := by
    funext c j
    unfold ho_v
    rw [e]
    rfl
  unfold ho_c
  rw [e, e2]
  rfl
theorem ho_cP {Y : Sy} {E : Ev} {S : Hp} {a k : Nat} {v : Nat} : ∀ b, b ≠ a → ho_c Y E (ho_sP S a k v) b = ho_c Y E S b := by
  intro b hb
  have e : (ho_sP S a k v).2.2 b = S.2.2 b := if_neg hb
  have e2 : ho_v Y E (ho_sP S a k v) b = ho_v Y E S b := by
    funext c j
    unfold ho_v
    rw [e]
    rfl
  unfold ho_c
  rw [e2]
  rfl
/-- a field list with one place written -/
theorem ho_fs {n k : Nat} {f g : Nat → Value} {v : Value} (hk : g k = v) (hg : ∀ j, j ≠ k → g j = f j) : ((List.range n).map f).set k v = (List.range n).map g := by
  apply List.ext_getElem?
  intro i
  rw [List.getElem?_set, List.getElem?_map, List.getElem?_map]
  by_cases hi : k = i
  · subst hi
    rw [if_pos rfl]
    by_cases hl : k < n
    · rw [if_pos (by rw [List.length_map, List.length_range]; exact hl), List.getElem?_range hl]
      show some v = some (g k)
      rw [hk]
    · rw [if_neg (by rw [List.length_map, List.length_range]; exact hl), List.getElem?_eq_none (by rw [List.length_range]; omega)]
      rfl
  · rw [if_neg hi]
    by_cases hl : i < n
    · rw [List.getElem?_range hl]
      show some (f i) = some (g i)
      rw [hg i (fun e => hi e.symm)]
    · rw [List.getElem?_eq_none (by rw [List.length_range]; omega)]
      rfl
theorem gw_of {w : Cond} {i : Nat} (h : lw_tbl[i]? = some w) (hg : goodWord w = true) : w ∈ gw := List.mem_filter.mpr ⟨List.mem_of_getElem? h, hg⟩
section HO
variable {p : Program} {l : Launch} {e : Env} {R : Room} {s : State} {m : MethodId} {args : Array Value} {below : List Frame} {meth : Method} {c : Code} {H H0 : Heap} {locs : List Loc} {Q : State → Prop}
variable {Y : Sy} {E : Ev} {A : Nat → Prop} {S : Hp} {own : String} {cc : ByteArray} {nL : Nat} {ret : Option FieldType} {pc : Nat} {ls : Array Slot} {rest : List Value}
theorem ho_c1 {a ci : Nat} (hs : Y.2.1 a = (1, ci)) : ho_c Y E S a = .inr (ci, (List.range (Y.2.2.2.2.2 ci)).map (ho_v Y E S a ci)) := by
  unfold ho_c
  rw [hs]
  rfl
theorem ho_get {a ci k idx N : Nat} {Cn : String} {T : u_T} {ty : Nat → FieldType} {v : Value} (C : ho_I p s m args meth c own cc nL ret) (F : ho_F ci Cn T ty N) (hR : ho_R Y E A s H0 H locs S) (ha : a ∈ Y.1 ∧ Y.2.1 a = (1, ci)) (hn : Y.2.2.2.2.2 ci = N) (hk : k < N) (hw : Cond.fieldLink own idx (T k).1 (T k).2.1 (T k).2.2.1 ∈ gw) (hv : ho_v Y E S a ci k = v) (hdg : decode cc pc = .ok (.getfield idx, 3))
    (kk : W p l e R s m args below meth c H locs 0 0 Q (F0 m (pc + 3) ls (v :: rest))) : W p l e R s m args below meth c H locs 0 0 Q (F0 m pc ls (.ref (E.2.1 a) :: rest)) := by
  obtain ⟨hx, hb, -, -, hown, hts, -⟩ := C
  obtain ⟨q, -, hq⟩ := ho_at ha.1
  have he := hq E S
  rw [ho_c1 ha.2] at he
  refine va_get hx hb hts F.2.1 hown hR.1 hR.2.1 q he F.1 k hk (hts _ hw) (fun _ h9 => h9) ?_ hdg kk
  rw [List.getElem?_map, List.getElem?_range (by rw [hn]; exact hk)]
  exact congrArg some hv
theorem ho_put {a ci k idx N : Nat} {Cn : String} {T : u_T} {ty : Nat → FieldType} {ft : FieldType} {v : Value} {S' : Hp} (C : ho_I p s m args meth c own cc nL ret) (F : ho_F ci Cn T ty N) (hR : ho_R Y E A s H0 H locs S) (ha : a ∈ Y.1 ∧ Y.2.1 a = (1, ci)) (hn : Y.2.2.2.2.2 ci = N) (hk : k < N) (hw : Cond.fieldLink own idx (T k).1 (T k).2.1 (T k).2.2.1 ∈ gw) (hfin : (T k).2.2.2 = false) (hd : parseFieldDescriptor (T k).2.2.1 = some ft) (hna : narrow ft v = v) (hfit : fits ft v = true)
    (hv : ho_v Y E S' a ci k = v) (hv2 : ∀ j, j ≠ k → ho_v Y E S' a ci j = ho_v Y E S a ci j) (hb2 : ∀ b, b ≠ a → ho_c Y E S' b = ho_c Y E S b) (hdg : decode cc pc = .ok (.putfield idx, 3))
    (kk : ∀ (H1 : Heap) (locs1 : List Loc), ho_R Y E A s H0 H1 locs1 S' → W p l e R s m args below meth c H1 locs1 0 0 Q (F0 m (pc + 3) ls rest)) : W p l e R s m args below meth c H locs 0 0 Q (F0 m pc ls (v :: .ref (E.2.1 a) :: rest)) := by
  obtain ⟨hx, hb, -, -, hown, hts, -⟩ := C
  obtain ⟨q, hq0, hq⟩ := ho_at ha.1
  have he := hq E S
  rw [ho_c1 ha.2] at he
  obtain ⟨hK, hP, hD, hS⟩ := hR
  have e1 : ((List.range (Y.2.2.2.2.2 ci)).map (ho_v Y E S a ci)).set k v = (List.range (Y.2.2.2.2.2 ci)).map (ho_v Y E S' a ci) := ho_fs hv hv2
  refine va_put hx hb hts F.2.1 ty F.2.2.1 F.2.2.2 hown hK hP hD hS q he F.1 k hk (hts _ hw) (fun _ h9 => h9) hfin hd hna hfit (by rw [List.length_map, List.length_range, hn]; exact hk) hdg (fun H1 locs1 hP hD2 hS => ?_)
  rw [e1, ← ho_c1 ha.2, ho_set hD hq0 hb2] at hP hD2
  exact kk H1 locs1 ⟨hK, hP, hD2, hS⟩
end HO
end
section
section HO2
variable {p : Program} {l : Launch} {e : Env} {R : Room} {s : State} {m : MethodId} {args : Array Value} {below : List Frame} {meth : Method} {c : Code} {H H0 : Heap} {locs : List Loc} {Q : State → Prop}
variable {Y : Sy} {E : Ev} {A : Nat → Prop} {S : Hp} {own : String} {cc : ByteArray} {nL : Nat} {ret : Option FieldType} {pc : Nat} {ls : Array Slot} {rest : List Value}
/-- a field by its link: the class's number, the place, the kind -/
abbrev ho_f (Y : Sy) (own : String) (ci : Nat) (T : u_T) (N idx k kd : Nat) (ft : FieldType) (fin : Bool) : Prop := Y.2.2.2.2.2 ci = N ∧ k < N ∧ Cond.fieldLink own idx (T k).1 (T k).2.1 (T k).2.2.1 ∈ gw ∧ Y.2.2.1 ci k = kd ∧ (T k).2.2.2 = fin ∧ parseFieldDescriptor (T k).2.2.1 = some ft
theorem ho_getI {a ci k idx N : Nat} {Cn : String} {T : u_T} {ty : Nat → FieldType} {ft : FieldType} {fin : Bool} (C : ho_I p s m args meth c own cc nL ret) (F : ho_F ci Cn T ty N) (hf : ho_f Y own ci T N idx k 0 ft fin) (hR : ho_R Y E A s H0 H locs S) (ha : a ∈ Y.1 ∧ Y.2.1 a = (1, ci)) (hdg : decode cc pc = .ok (.getfield idx, 3))
    (kk : W p l e R s m args below meth c H locs 0 0 Q (F0 m (pc + 3) ls (.int (S.1 a k) :: rest))) : W p l e R s m args below meth c H locs 0 0 Q (F0 m pc ls (.ref (E.2.1 a) :: rest)) :=
  ho_get C F hR ha hf.1 hf.2.1 hf.2.2.1 (by unfold ho_v; rw [if_pos hf.2.2.2.1]) hdg kk
theorem ho_getJ {a ci k idx N : Nat} {Cn : String} {T : u_T} {ty : Nat → FieldType} {ft : FieldType} {fin : Bool} (C : ho_I p s m args meth c own cc nL ret) (F : ho_F ci Cn T ty N) (hf : ho_f Y own ci T N idx k 1 ft fin) (hR : ho_R Y E A s H0 H locs S) (ha : a ∈ Y.1 ∧ Y.2.1 a = (1, ci)) (hdg : decode cc pc = .ok (.getfield idx, 3))
    (kk : W p l e R s m args below meth c H locs 0 0 Q (F0 m (pc + 3) ls (.long (S.2.1 a k) :: rest))) : W p l e R s m args below meth c H locs 0 0 Q (F0 m pc ls (.ref (E.2.1 a) :: rest)) :=
  ho_get C F hR ha hf.1 hf.2.1 hf.2.2.1 (by unfold ho_v; rw [if_neg (by rw [hf.2.2.2.1]; decide), if_pos hf.2.2.2.1]) hdg kk
theorem ho_getR {a ci k idx N a' : Nat} {Cn : String} {T : u_T} {ty : Nat → FieldType} {ft : FieldType} {fin : Bool} (C : ho_I p s m args meth c own cc nL ret) (F : ho_F ci Cn T ty N) (hf : ho_f Y own ci T N idx k 2 ft fin) (hR : ho_R Y E A s H0 H locs S) (ha : a ∈ Y.1 ∧ Y.2.1 a = (1, ci)) (hp : Y.2.2.2.1 a k = a') (hdg : decode cc pc = .ok (.getfield idx, 3))
    (kk : W p l e R s m args below meth c H locs 0 0 Q (F0 m (pc + 3) ls (.ref (E.2.1 a') :: rest))) : W p l e R s m args below meth c H locs 0 0 Q (F0 m pc ls (.ref (E.2.1 a) :: rest)) :=
  ho_get C F hR ha hf.1 hf.2.1 hf.2.2.1 (by unfold ho_v; rw [if_neg (by rw [hf.2.2.2.1]; decide), if_neg (by rw [hf.2.2.2.1]; decide), if_pos hf.2.2.2.1, hp]) hdg kk
theorem ho_getP {a ci k idx N : Nat} {Cn : String} {T : u_T} {ty : Nat → FieldType} {ft : FieldType} {fin : Bool} (C : ho_I p s m args meth c own cc nL ret) (F : ho_F ci Cn T ty N) (hf : ho_f Y own ci T N idx k 3 ft fin) (hR : ho_R Y E A s H0 H locs S) (ha : a ∈ Y.1 ∧ Y.2.1 a = (1, ci)) (hdg : decode cc pc = .ok (.getfield idx, 3))
    (kk : W p l e R s m args below meth c H locs 0 0 Q (F0 m (pc + 3) ls (.ref (E.2.1 (S.2.2 a k)) :: rest))) : W p l e R s m args below meth c H locs 0 0 Q (F0 m pc ls (.ref (E.2.1 a) :: rest)) :=
  ho_get C F hR ha hf.1 hf.2.1 hf.2.2.1 (by unfold ho_v; rw [if_neg (by rw [hf.2.2.2.1]; decide), if_neg (by rw [hf.2.2.2.1]; decide), if_neg (by rw [hf.2.2.2.1]; decide)]) hdg kk
theorem ho_vI {a ci k : Nat} {v : Int32} (hk : Y.2.2.1 ci k = 0) : ho_v Y E (ho_sI S a k v) a ci k = .int v ∧ ∀ j, j ≠ k → ho_v Y E (ho_sI S a k v) a ci j = ho_v Y E S a ci j := by
  have e : (ho_sI S a k v).1 a = upd (S.1 a) k v := if_pos rfl
  refine ⟨?_, fun j hj => ?_⟩
  · unfold ho_v
    rw [if_pos hk, e, pk_us]
  · unfold ho_v
    rw [e, pk_un hj]
    rfl
theorem ho_vJ {a ci k : Nat} {v : Int64} (hk : Y.2.2.1 ci k = 1) : ho_v Y E (ho_sJ S a k v) a ci k = .long v ∧ ∀ j, j ≠ k → ho_v Y E (ho_sJ S a k v) a ci j = ho_v Y E S a ci j := by
  have e : (ho_sJ S a k v).2.1 a = vp_updL (S.2.1 a) k v := if_pos rfl
  refine ⟨?_, fun j hj => ?_⟩
  · unfold ho_v
    rw [if_neg (by rw [hk]; decide), if_pos hk, e, pk_uLs]
  · unfold ho_v
    rw [e, pk_uLn hj]
    rfl
theorem ho_vP {a ci k : Nat} {v : Nat} (hk : Y.2.2.1 ci k = 3) : ho_v Y E (ho_sP S a k v) a ci k = .ref (E.2.1 v) ∧ ∀ j, j ≠ k → ho_v Y E (ho_sP S a k v) a ci j = ho_v Y E S a ci j := by
  have e : (ho_sP S a k v).2.2 a = va_up (S.2.2 a) k v := if_pos rfl
  refine ⟨?_, fun j hj => ?_⟩
  · unfold ho_v
    rw [if_neg (by rw [hk]; decide), if_neg (by rw [hk]; decide), if_neg (by rw [hk]; decide), e]
    unfold va_up
    rw [if_pos rfl]
  · have e2 : va_up (S.2.2 a) k v j = S.2.2 a j := if_neg hj
    unfold ho_v
    rw [e, e2]
    rfl
theorem ho_putI {a ci k idx N : Nat} {Cn : String} {T : u_T} {ty : Nat → FieldType} {v : Int32} (C : ho_I p s m args meth c own cc nL ret) (F : ho_F ci Cn T ty N) (hf : ho_f Y own ci T N idx k 0 .int false) (hR : ho_R Y E A s H0 H locs S) (ha : a ∈ Y.1 ∧ Y.2.1 a = (1, ci)) (hdg : decode cc pc = .ok (.putfield idx, 3))
    (kk : ∀ (H1 : Heap) (locs1 : List Loc), ho_R Y E A s H0 H1 locs1 (ho_sI S a k v) → W p l e R s m args below meth c H1 locs1 0 0 Q (F0 m (pc + 3) ls rest)) : W p l e R s m args below meth c H locs 0 0 Q (F0 m pc ls (.int v :: .ref (E.2.1 a) :: rest)) :=
  ho_put C F hR ha hf.1 hf.2.1 hf.2.2.1 hf.2.2.2.2.1 hf.2.2.2.2.2 (vp_nar_int v) rfl (ho_vI hf.2.2.2.1).1 (ho_vI hf.2.2.2.1).2 ho_cI hdg kk
theorem ho_putZ {a ci k idx N : Nat} {Cn : String} {T : u_T} {ty : Nat → FieldType} {v : Int32} (C : ho_I p s m args meth c own cc nL ret) (F : ho_F ci Cn T ty N) (hf : ho_f Y own ci T N idx k 0 .boolean false) (hR : ho_R Y E A s H0 H locs S) (ha : a ∈ Y.1 ∧ Y.2.1 a = (1, ci)) (hz : v = 0 ∨ v = 1) (hdg : decode cc pc = .ok (.putfield idx, 3))
    (kk : ∀ (H1 : Heap) (locs1 : List Loc), ho_R Y E A s H0 H1 locs1 (ho_sI S a k v) → W p l e R s m args below meth c H1 locs1 0 0 Q (F0 m (pc + 3) ls rest)) : W p l e R s m args below meth c H locs 0 0 Q (F0 m pc ls (.int v :: .ref (E.2.1 a) :: rest)) :=
  ho_put C F hR ha hf.1 hf.2.1 hf.2.2.1 hf.2.2.2.2.1 hf.2.2.2.2.2 (by rcases hz with rfl | rfl <;> decide) (by rcases hz with rfl | rfl <;> decide) (ho_vI hf.2.2.2.1).1 (ho_vI hf.2.2.2.1).2 ho_cI hdg kk
theorem ho_putJ {a ci k idx N : Nat} {Cn : String} {T : u_T} {ty : Nat → FieldType} {v : Int64} (C : ho_I p s m args meth c own cc nL ret) (F : ho_F ci Cn T ty N) (hf : ho_f Y own ci T N idx k 1 .long false) (hR : ho_R Y E A s H0 H locs S) (ha : a ∈ Y.1 ∧ Y.2.1 a = (1, ci)) (hdg : decode cc pc = .ok (.putfield idx, 3))
    (kk : ∀ (H1 : Heap) (locs1 : List Loc), ho_R Y E A s H0 H1 locs1 (ho_sJ S a k v) → W p l e R s m args below meth c H1 locs1 0 0 Q (F0 m (pc + 3) ls rest)) : W p l e R s m args below meth c H locs 0 0 Q (F0 m pc ls (.long v :: .ref (E.2.1 a) :: rest)) :=
  ho_put C F hR ha hf.1 hf.2.1 hf.2.2.1 hf.2.2.2.2.1 hf.2.2.2.2.2 rfl rfl (ho_vJ hf.2.2.2.1).1 (ho_vJ hf.2.2.2.1).2 ho_cJ hdg kk
theorem ho_putP {a ci k idx N : Nat} {Cn D : String} {T : u_T} {ty : Nat → FieldType} {v : Nat} (C : ho_I p s m args meth c own cc nL ret) (F : ho_F ci Cn T ty N) (hf : ho_f Y own ci T N idx k 3 (.object D) false) (hR : ho_R Y E A s H0 H locs S) (ha : a ∈ Y.1 ∧ Y.2.1 a = (1, ci)) (hdg : decode cc pc = .ok (.putfield idx, 3))
    (kk : ∀ (H1 : Heap) (locs1 : List Loc), ho_R Y E A s H0 H1 locs1 (ho_sP S a k v) → W p l e R s m args below meth c H1 locs1 0 0 Q (F0 m (pc + 3) ls rest)) : W p l e R s m args below meth c H locs 0 0 Q (F0 m pc ls (.ref (E.2.1 v) :: .ref (E.2.1 a) :: rest)) :=
  ho_put C F hR ha hf.1 hf.2.1 hf.2.2.1 hf.2.2.2.2.1 hf.2.2.2.2.2 rfl rfl (ho_vP hf.2.2.2.1).1 (ho_vP hf.2.2.2.1).2 ho_cP hdg kk
-- arrays
theorem ho_cA {a n t : Nat} (hs : Y.2.1 a = (t, n)) : (t = 2 → ho_c Y E S a = .inl (E.2.2 0, n, .inl (S.1 a))) ∧ (t = 3 → ho_c Y E S a = .inl (E.2.2 1, n, .inl (S.1 a))) ∧ (t = 4 → ho_c Y E S a = .inl (E.2.2 2, n, .inl (S.1 a))) ∧ (t = 5 → ho_c Y E S a = .inl (E.2.2 3, n, .inr (.inl (S.2.1 a)))) ∧ (t = 6 → ho_c Y E S a = .inl (E.2.2 4, n, .inl (S.1 a)))
    ∧ (t = 7 → ho_c Y E S a = .inl (E.2.2 5, n, .inr (.inr (.inr (.inr (fun i => some (E.2.1 (Y.2.2.2.2.1 a i)))))))) ∧ (t = 8 → ho_c Y E S a = .inl (E.2.2 6, n, .inr (.inr (.inr (.inr (fun i => some (E.2.1 (Y.2.2.2.2.1 a i)))))))) := by
  refine ⟨?_, ?_, ?_, ?_, ?_, ?_, ?_⟩ <;> (intro ht; subst ht; unfold ho_c; rw [hs]; rfl)
theorem ho_uI {a k : Nat} {v : Int32} : (ho_sI S a k v).1 a = upd (S.1 a) k v := if_pos rfl
theorem ho_uJ {a k : Nat} {v : Int64} : (ho_sJ S a k v).2.1 a = vp_updL (S.2.1 a) k v := if_pos rfl
theorem ho_ild {a n : Nat} {i : Int32} (C : ho_I p s m args meth c own cc nL ret) (hR : ho_R Y E A s H0 H locs S) (ha : a ∈ Y.1 ∧ Y.2.1 a = (4, n)) (hin : vp_in i n) (hdg : decode cc pc = .ok (.iaload, 1))
    (kk : W p l e R s m args below meth c H locs 0 0 Q (F0 m (pc + 1) ls (.int (S.1 a i.toNatClampNeg) :: rest))) : W p l e R s m args below meth c H locs 0 0 Q (F0 m pc ls (.int i :: .ref (E.2.1 a) :: rest)) := by
  obtain ⟨q, -, hq⟩ := ho_at ha.1
  have he := hq E S
  rw [(ho_cA ha.2).2.2.1 rfl] at he
  exact va_iald C.1 C.2.1 hR.1 hR.2.1 q 2 he rfl hin hdg kk
theorem ho_cld {a n : Nat} {i : Int32} (C : ho_I p s m args meth c own cc nL ret) (hR : ho_R Y E A s H0 H locs S) (ha : a ∈ Y.1 ∧ Y.2.1 a = (3, n)) (hin : vp_in i n) (hdg : decode cc pc = .ok (.caload, 1))
    (kk : W p l e R s m args below meth c H locs 0 0 Q (F0 m (pc + 1) ls (.int (S.1 a i.toNatClampNeg) :: rest))) : W p l e R s m args below meth c H locs 0 0 Q (F0 m pc ls (.int i :: .ref (E.2.1 a) :: rest)) := by
  obtain ⟨q, -, hq⟩ := ho_at ha.1
  have he := hq E S
  rw [(ho_cA ha.2).2.1 rfl] at he
  exact va_cald C.1 C.2.1 hR.1 hR.2.1 q 1 he rfl hin hdg kk
theorem ho_bld {a n : Nat} {i : Int32} (C : ho_I p s m args meth c own cc nL ret) (hR : ho_R Y E A s H0 H locs S) (ha : a ∈ Y.1 ∧ Y.2.1 a = (2, n)) (hin : vp_in i n) (hdg : decode cc pc = .ok (.baload, 1))
    (kk : W p l e R s m args below meth c H locs 0 0 Q (F0 m (pc + 1) ls (.int (S.1 a i.toNatClampNeg) :: rest))) : W p l e R s m args below meth c H locs 0 0 Q (F0 m pc ls (.int i :: .ref (E.2.1 a) :: rest)) := by
  obtain ⟨q, -, hq⟩ := ho_at ha.1
  have he := hq E S
  rw [(ho_cA ha.2).1 rfl] at he
  exact va_bald C.1 C.2.1 hR.1 hR.2.1 q 0 he rfl hin hdg kk
theorem ho_zld {a n : Nat} {i : Int32} (C : ho_I p s m args meth c own cc nL ret) (hR : ho_R Y E A s H0 H locs S) (ha : a ∈ Y.1 ∧ Y.2.1 a = (6, n)) (hin : vp_in i n) (hdg : decode cc pc = .ok (.baload, 1))
    (kk : W p l e R s m args below meth c H locs 0 0 Q (F0 m (pc + 1) ls (.int (S.1 a i.toNatClampNeg) :: rest))) : W p l e R s m args below meth c H locs 0 0 Q (F0 m pc ls (.int i :: .ref (E.2.1 a) :: rest)) := by
  obtain ⟨q, -, hq⟩ := ho_at ha.1
  have he := hq E S
  rw [(ho_cA ha.2).2.2.2.2.1 rfl] at he
  exact va_zald C.1 C.2.1 hR.1 hR.2.1 q 4 he rfl hin hdg kk
theorem ho_lld {a n : Nat} {i : Int32} (C : ho_I p s m args meth c own cc nL ret) (hR : ho_R Y E A s H0 H locs S) (ha : a ∈ Y.1 ∧ Y.2.1 a = (5, n)) (hin : vp_in i n) (hdg : decode cc pc = .ok (.laload, 1))
    (kk : W p l e R s m args below meth c H locs 0 0 Q (F0 m (pc + 1) ls (.long (S.2.1 a i.toNatClampNeg) :: rest))) : W p l e R s m args below meth c H locs 0 0 Q (F0 m pc ls (.int i :: .ref (E.2.1 a) :: rest)) := by
  obtain ⟨q, -, hq⟩ := ho_at ha.1
  have he := hq E S
  rw [(ho_cA ha.2).2.2.2.1 rfl] at he
  exact va_lald C.1 C.2.1 hR.1 hR.2.1 q 3 he rfl hin hdg kk
theorem ho_ist {a n : Nat} {i x : Int32} (C : ho_I p s m args meth c own cc nL ret) (hR : ho_R Y E A s H0 H locs S) (ha : a ∈ Y.1 ∧ Y.2.1 a = (4, n)) (hin : vp_in i n) (hdg : decode cc pc = .ok (.iastore, 1))
    (kk : ∀ (H1 : Heap) (locs1 : List Loc), ho_R Y E A s H0 H1 locs1 (ho_sI S a i.toNatClampNeg x) → W p l e R s m args below meth c H1 locs1 0 0 Q (F0 m (pc + 1) ls rest)) : W p l e R s m args below meth c H locs 0 0 Q (F0 m pc ls (.int x :: .int i :: .ref (E.2.1 a) :: rest)) := by
  obtain ⟨q, hq0, hq⟩ := ho_at ha.1
  obtain ⟨hK, hP, hD, hS⟩ := hR
  have he := hq E S
  rw [(ho_cA ha.2).2.2.1 rfl] at he
  refine va_iast C.1 C.2.1 hK hP hD hS q 2 he rfl hin hdg (fun H1 locs1 hP hD2 hS => ?_)
  rw [← ho_uI, ← (ho_cA (E := E) (S := ho_sI S a i.toNatClampNeg x) ha.2).2.2.1 rfl, ho_set hD hq0 ho_cI] at hP hD2
  exact kk H1 locs1 ⟨hK, hP, hD2, hS⟩
theorem ho_bst {a n : Nat} {i x : Int32} (C : ho_I p s m args meth c own cc nL ret) (hR : ho_R Y E A s H0 H locs S) (ha : a ∈ Y.1 ∧ Y.2.1 a = (2, n)) (hin : vp_in i n) (hdg : decode cc pc = .ok (.bastore, 1))
    (kk : ∀ (H1 : Heap) (locs1 : List Loc), ho_R Y E A s H0 H1 locs1 (ho_sI S a i.toNatClampNeg (vp_nar .byte x)) → W p l e R s m args below meth c H1 locs1 0 0 Q (F0 m (pc + 1) ls rest)) : W p l e R s m args below meth c H locs 0 0 Q (F0 m pc ls (.int x :: .int i :: .ref (E.2.1 a) :: rest)) := by
  obtain ⟨q, hq0, hq⟩ := ho_at ha.1
  obtain ⟨hK, hP, hD, hS⟩ := hR
  have he := hq E S
  rw [(ho_cA ha.2).1 rfl] at he
  refine va_bast C.1 C.2.1 hK hP hD hS q 0 he rfl hin hdg (fun H1 locs1 hP hD2 hS => ?_)
  rw [← ho_uI, ← (ho_cA (E := E) (S := ho_sI S a i.toNatClampNeg (vp_nar .byte x)) ha.2).1 rfl, ho_set hD hq0 ho_cI] at hP hD2
  exact kk H1 locs1 ⟨hK, hP, hD2, hS⟩
theorem ho_zst {a n : Nat} {i x : Int32} (C : ho_I p s m args meth c own cc nL ret) (hR : ho_R Y E A s H0 H locs S) (ha : a ∈ Y.1 ∧ Y.2.1 a = (6, n)) (hin : vp_in i n) (hdg : decode cc pc = .ok (.bastore, 1))
    (kk : ∀ (H1 : Heap) (locs1 : List Loc), ho_R Y E A s H0 H1 locs1 (ho_sI S a i.toNatClampNeg (vp_nar .boolean x)) → W p l e R s m args below meth c H1 locs1 0 0 Q (F0 m (pc + 1) ls rest)) : W p l e R s m args below meth c H locs 0 0 Q (F0 m pc ls (.int x :: .int i :: .ref (E.2.1 a) :: rest)) := by
  obtain ⟨q, hq0, hq⟩ := ho_at ha.1
  obtain ⟨hK, hP, hD, hS⟩ := hR
  have he := hq E S
  rw [(ho_cA ha.2).2.2.2.2.1 rfl] at he
  refine va_zast C.1 C.2.1 hK hP hD hS q 4 he rfl hin hdg (fun H1 locs1 hP hD2 hS => ?_)
  rw [← ho_uI, ← (ho_cA (E := E) (S := ho_sI S a i.toNatClampNeg (vp_nar .boolean x)) ha.2).2.2.2.2.1 rfl, ho_set hD hq0 ho_cI] at hP hD2
  exact kk H1 locs1 ⟨hK, hP, hD2, hS⟩
theorem ho_lst {a n : Nat} {i : Int32} {x : Int64} (C : ho_I p s m args meth c own cc nL ret) (hR : ho_R Y E A s H0 H locs S) (ha : a ∈ Y.1 ∧ Y.2.1 a = (5, n)) (hin : vp_in i n) (hdg : decode cc pc = .ok (.lastore, 1))
    (kk : ∀ (H1 : Heap) (locs1 : List Loc), ho_R Y E A s H0 H1 locs1 (ho_sJ S a i.toNatClampNeg x) → W p l e R s m args below meth c H1 locs1 0 0 Q (F0 m (pc + 1) ls rest)) : W p l e R s m args below meth c H locs 0 0 Q (F0 m pc ls (.long x :: .int i :: .ref (E.2.1 a) :: rest)) := by
  obtain ⟨q, hq0, hq⟩ := ho_at ha.1
  obtain ⟨hK, hP, hD, hS⟩ := hR
  have he := hq E S
  rw [(ho_cA ha.2).2.2.2.1 rfl] at he
  refine va_last C.1 C.2.1 hK hP hD hS q 3 he rfl hin hdg (fun H1 locs1 hP hD2 hS => ?_)
  rw [← ho_uJ, ← (ho_cA (E := E) (S := ho_sJ S a i.toNatClampNeg x) ha.2).2.2.2.1 rfl, ho_set hD hq0 ho_cJ] at hP hD2
  exact kk H1 locs1 ⟨hK, hP, hD2, hS⟩
theorem ho_alen {a n t : Nat} (ht : 2 ≤ t ∧ t ≤ 6) (C : ho_I p s m args meth c own cc nL ret) (hR : ho_R Y E A s H0 H locs S) (ha : a ∈ Y.1 ∧ Y.2.1 a = (t, n)) (hdg : decode cc pc = .ok (.arraylength, 1))
    (kk : W p l e R s m args below meth c H locs 0 0 Q (F0 m (pc + 1) ls (.int (Int32.ofNat n) :: rest))) : W p l e R s m args below meth c H locs 0 0 Q (F0 m pc ls (.ref (E.2.1 a) :: rest)) := by
  obtain ⟨q, -, hq⟩ := ho_at ha.1
  have he := hq E S
  have h5 : t = 2 ∨ t = 3 ∨ t = 4 ∨ t = 5 ∨ t = 6 := by omega
  rcases h5 with h | h | h | h | h
  · rw [(ho_cA ha.2).1 h] at he
    exact va_alen C.1 C.2.1 hR.1 hR.2.1 q 0 he rfl rfl hdg kk
  · rw [(ho_cA ha.2).2.1 h] at he
    exact va_alen C.1 C.2.1 hR.1 hR.2.1 q 1 he rfl rfl hdg kk
  · rw [(ho_cA ha.2).2.2.1 h] at he
    exact va_alen C.1 C.2.1 hR.1 hR.2.1 q 2 he rfl rfl hdg kk
  · rw [(ho_cA ha.2).2.2.2.1 h] at he
    exact va_alen C.1 C.2.1 hR.1 hR.2.1 q 3 he rfl rfl hdg kk
  · rw [(ho_cA ha.2).2.2.2.2.1 h] at he
    exact va_alen C.1 C.2.1 hR.1 hR.2.1 q 4 he rfl rfl hdg kk
end HO2
end
section
/-! contracts over the whole heap of a system, calls, ends -/
def ho_pc (Y : Sy) (E : Ev) (S : Hp) (sz : Nat) (U : State) : Prop := U.heap.size = sz ∧ va_P E.1 vwCl (ho_w Y E S) U.heap ∧ va_K E.1 vwCl (ho_t E) U ∧ va_D (fun _ => True) (ho_w Y E S)
def ho_Q (Y : Sy) (E : Ev) (S0 : Hp) (sz : Nat) (x : Option Value × Hp) : Array Value → State → Outcome → State → Prop := fun _ st oc t => oc = .returned x.1 ∧ (va_P E.1 vwCl (ho_w Y E x.2) t.heap ∧ va_D (va_A (ho_w Y E S0) sz) (ho_w Y E x.2)) ∧ va_F (va_A (ho_w Y E S0) sz) st t
def ho_rm (d : Nat) : Room := { frames := d, cells := 0, slots := 0, locals := 64 * d }
def ho_ws (y : MethodName) (cc : ByteArray) (mL : Nat) (ret : Option FieldType) : List Cond := .code y cc mL ret :: gw
def ho_M (l : Launch) (Y : Sy) (E : Ev) (y : MethodName) (cc : ByteArray) (mL : Nat) (ret : Option FieldType) (d : Nat) (av : List Value) (S : Hp) (x : Option Value × Hp) : Prop :=
  ∀ sz : Nat, Met l y (ho_ws y cc mL ret) (ho_rm d) (va_Pc av (ho_pc Y E S sz)) (ho_Q Y E S sz x) 0 0 (va_A (ho_w Y E S) sz)
/-- a method's end -/
abbrev ho_Z (Y : Sy) (E : Ev) (S0 : Hp) (below : List Frame) (args : Array Value) (s : State) (x : Option Value × Hp) : State → Prop := MQ below (ho_Q Y E S0 s.heap.size x) args s 0 0 (va_A (ho_w Y E S0) s.heap.size)
theorem ho_in {l : Launch} {Y : Sy} {E : Ev} {y : MethodName} {cc : ByteArray} {mL : Nat} {ret : Option FieldType} {d : Nat} {av : List Value} {S : Hp} {x : Option Value × Hp} (hy : plainName y.cls = true) (ha : (lg_sl av).length ≤ mL)
    (body : ∀ (p : Program) (e : Env) (s : State) (m : MethodId) (args : Array Value) (below : List Frame) (meth : Method) (c : Code), ho_I p s m args meth c y.cls cc mL ret → ho_R Y E (va_A (ho_w Y E S) s.heap.size) s s.heap s.heap [] S → ∀ ls : Array Slot, lv_has ls mL (lv_args 0 av) → W p l e (ho_rm d) s m args below meth c s.heap [] 0 0 (ho_Z Y E S below args s x) (F0 m 0 ls [])) : ho_M l Y E y cc mL ret d av S x := by
  intro sz
  refine Met.ofW (cc := cc) (maxL := mL) (ret := ret) hy rfl ?_
  intro p e s m args below meth c s₁ B hml hv
  obtain ⟨rfl, hsz, hP, hK, hD⟩ := hv
  subst hsz
  have hts := atoms_spec (ws := ho_ws y cc mL ret) B.pre
  have hl := lv_entry av (n := mL) ha
  rw [lg_entry_eq]
  exact body p e s m _ below meth c ⟨B.exec, B.bytes, hml, B.returns, findClass_of_methodNamed B.named, fun w hw => hts w (List.mem_cons_of_mem _ hw), B.notSynchronized⟩ ⟨hK, hP, hD.self, va_S.rf⟩ _ hl
section HO3
variable {p : Program} {l : Launch} {e : Env} {R : Room} {s : State} {m : MethodId} {args : Array Value} {below : List Frame} {meth : Method} {c : Code} {H H0 : Heap} {locs : List Loc} {Q : State → Prop}
variable {Y : Sy} {E : Ev} {A : Nat → Prop} {S S0 : Hp} {own : String} {cc : ByteArray} {nL : Nat} {ret : Option FieldType} {pc : Nat} {ls : Array Slot} {rest : List Value}
theorem ho_fin {x : Option Value} (hR : ho_R Y E (va_A (ho_w Y E S0) s.heap.size) s s.heap H locs S) : ∀ t : State, t.heap = H → s.WarmedH t.vm → ho_Q Y E S0 s.heap.size (x, S) args s (.returned x) t := by
  intro t ht _
  obtain ⟨-, hP, hD, hS⟩ := hR
  exact ⟨rfl, ⟨by rw [ht]; exact hP, hD⟩, hS.F ht⟩
theorem ho_iret {v : Int32} {r : Int32 × Hp} (C : ho_I p s m args meth c own cc nL (some .int)) (hR : ho_R Y E (va_A (ho_w Y E S0) s.heap.size) s s.heap H locs S) (h : some (v, S) = some r) (hdg : decode cc pc = .ok (.ireturn, 1)) : W p l e R s m args below meth c H locs 0 0 (ho_Z Y E S0 below args s (some (.int r.1), r.2)) (F0 m pc ls [.int v]) := by
  obtain rfl := Option.some.inj h
  exact W.iret C.1 C.2.1 C.2.2.2.1 (ho_fin hR) hR.2.2.2.2.2 hdg (hlocks := C.2.2.2.2.2.2)
theorem ho_zret {v : Int32} {r : Int32 × Hp} (C : ho_I p s m args meth c own cc nL (some .boolean)) (hR : ho_R Y E (va_A (ho_w Y E S0) s.heap.size) s s.heap H locs S) (hz : v = 0 ∨ v = 1) (h : some (v, S) = some r) (hdg : decode cc pc = .ok (.ireturn, 1)) : W p l e R s m args below meth c H locs 0 0 (ho_Z Y E S0 below args s (some (.int r.1), r.2)) (F0 m pc ls [.int v]) := by
  have hn : narrow .boolean (.int v) = .int v := by rcases hz with rfl | rfl <;> decide
  obtain rfl := Option.some.inj h
  exact W.zret C.1 C.2.1 C.2.2.2.1 hn (ho_fin hR) hR.2.2.2.2.2 hdg (hlocks := C.2.2.2.2.2.2)
theorem ho_lret {v : Int64} {r : Int64 × Hp} (C : ho_I p s m args meth c own cc nL (some .long)) (hR : ho_R Y E (va_A (ho_w Y E S0) s.heap.size) s s.heap H locs S) (h : some (v, S) = some r) (hdg : decode cc pc = .ok (.lreturn, 1)) : W p l e R s m args below meth c H locs 0 0 (ho_Z Y E S0 below args s (some (.long r.1), r.2)) (F0 m pc ls [.long v]) := by
  obtain rfl := Option.some.inj h
  exact W.lret C.1 C.2.1 C.2.2.2.1 (ho_fin hR) hR.2.2.2.2.2 hdg (hlocks := C.2.2.2.2.2.2)
theorem ho_vret {r : Hp} (C : ho_I p s m args meth c own cc nL none) (hR : ho_R Y E (va_A (ho_w Y E S0) s.heap.size) s s.heap H locs S) (h : some S = some r) (hdg : decode cc pc = .ok (.return_, 1)) : W p l e R s m args below meth c H locs 0 0 (ho_Z Y E S0 below args s (none, r)) (F0 m pc ls []) := by
  obtain rfl := Option.some.inj h
  exact W.vret C.1 C.2.1 C.2.2.2.1 (ho_fin hR) hR.2.2.2.2.2 hdg (hlocks := C.2.2.2.2.2.2)
theorem ho_call {x : Option Value × Hp} {a : Array Value} {st0 : List Value} (hr : va_Run p l e R s m args below meth c H locs 0 0 0 0 (F0 m pc ls st0) rest (ho_Q Y E S H.size x a) (va_A (ho_w Y E S) H.size)) (hR : ho_R Y E A s H0 H locs S) (hA : ∀ q, H0.size ≤ q → A q)
    (kk : ∀ (H1 : Heap) (locs1 : List Loc), ho_R Y E A s H0 H1 locs1 x.2 → W p l e R s m args below meth c H1 locs1 0 0 Q (F0 m (pc + 3) ls (x.1.toList ++ rest))) : W p l e R s m args below meth c H locs 0 0 Q (F0 m pc ls st0) := by
  obtain ⟨hK, hP, hD, hS⟩ := hR
  have hA1 : ∀ q, va_A (ho_w Y E S) H.size q → A q := by
    intro q h
    rcases h with ⟨k, e9, h⟩ | h
    · exact hD.2 k (q, e9) h
    · exact hA q (Nat.le_trans hS.1 h)
  intro T hT X
  obtain ⟨v, st₀, t, T', L, h0, X', hL, e1, e2, ⟨hv, ⟨hP1, hD1⟩, hz, hk⟩, st⟩ := hr T hT X
  cases hv
  rw [h0] at hz hk
  obtain ⟨t2, a1, b1⟩ := kk T'.heap (locs ++ L) ⟨hK, by rw [e1]; exact hP1, hD1.weaken (fun _ q _ h => hA1 q.1 h),
    ⟨Nat.le_trans hS.1 (by rw [e1]; exact hz), fun q h1 h2 => by rw [e1, hk q (Nat.lt_of_lt_of_le h1 hS.1) (fun z => h2 (hA1 q z))]; exact hS.2.1 q h1 h2, fun q hq => by
      rcases List.mem_append.mp hq with h | h
      · exact hS.2.2 q h
      · exact hA1 _ (hL q h)⟩⟩ T' rfl X'
  exact ⟨t2, st t2 a1, b1⟩
/-- a call's words -/
abbrev ho_d (y : MethodName) (n : Nat) : Prop := y.cls ≠ "java/lang/invoke/MethodHandle" ∧ y.cls ≠ "java/lang/invoke/VarHandle" ∧ (parseMethodDescriptor y.desc).map (fun d => d.parameters.length) = some n
abbrev ho_y (y : MethodName) (by2 : ByteArray) (mL : Nat) (rt : Option FieldType) (n : Nat) : Prop := Cond.code y by2 mL rt ∈ gw ∧ Cond.initialized y.cls ∈ gw ∧ ho_d y n
abbrev ho_yV (y : MethodName) (by2 : ByteArray) (mL : Nat) (rt : Option FieldType) (n : Nat) : Prop := ho_y y by2 mL rt n ∧ Cond.instanceMethod y ∈ gw ∧ Cond.selects y.cls y y ∈ gw
abbrev ho_yS (y : MethodName) (by2 : ByteArray) (mL : Nat) (rt : Option FieldType) (n : Nat) : Prop := ho_y y by2 mL rt n ∧ Cond.static y ∈ gw
theorem gw_good {w : Cond} (h : w ∈ gw) : (w.onTables && w.keeps) = true ∨ ∃ ty, w = .arrayClass ty := good_of_word (List.mem_filter.mp h).2
theorem ho_good {y : MethodName} {by2 : ByteArray} {mL : Nat} {rt : Option FieldType} (h : Cond.code y by2 mL rt ∈ gw) : GoodIn gw (ho_ws y by2 mL rt) := by
  intro w hw
  rcases List.mem_cons.mp hw with rfl | h2
  · exact ⟨h, gw_good h⟩
  · exact ⟨h2, gw_good h2⟩
theorem ho_blind {av : List Value} {sz : Nat} : FrameBlind (va_Pc av (ho_pc Y E S sz)) := fun a U g mk q => by
  obtain ⟨q0, q1, qP, qK, qD⟩ := q
  exact ⟨q0, q1, qP, va_K.moved (u := U) (U := U.calling g mk a) (Vm.Alike.refl U.vm) qK, qD⟩
theorem ho_pre (hR : ho_R Y E A s H0 H locs S) (av : List Value) : ∀ U : State, U.heap = H → s.WarmedH U.vm → va_Pc av (ho_pc Y E S H.size) av.toArray U := fun U hU hW => by
  obtain ⟨hK, hP, hD, -⟩ := hR
  exact ⟨rfl, by rw [hU], by rw [hU]; exact hP, va_K.moved hW.alike hK, hD.weaken (fun _ _ _ _ => trivial)⟩
/-- invokevirtual of a method of a class of the system -/
theorem ho_callV {y : MethodName} {by2 : ByteArray} {mL n d d2 idx b ci N : Nat} {rt : Option FieldType} {Cn : String} {T : u_T} {ty : Nat → FieldType} {As : List Value} {x : Option Value × Hp} (C : ho_I p s m args meth c own cc nL ret) (F : ho_F ci Cn T ty N) (hM : ho_M l Y E y by2 mL rt d2 (.ref (E.2.1 b) :: As) S x) (hy : ho_yV y by2 mL rt n) (hlk : Cond.methodLink own idx y ∈ gw) (hC : y.cls = Cn) (hb : b ∈ Y.1 ∧ Y.2.1 b = (1, ci)) (hn : As.length = n)
    (hsz : ls.size = nL) (hst : (rest.map fun v => v.category).sum ≤ 8) (hd : d2 + 1 ≤ d) (hmL : mL ≤ 45) (hR : ho_R Y E A s H0 H locs S) (hA : ∀ q, H0.size ≤ q → A q) (hdg : decode cc pc = .ok (.invokevirtual idx, 3))
    (kk : ∀ (H1 : Heap) (locs1 : List Loc), ho_R Y E A s H0 H1 locs1 x.2 → W p l e (ho_rm d) s m args below meth c H1 locs1 0 0 Q (F0 m (pc + 3) ls (x.1.toList ++ rest))) : W p l e (ho_rm d) s m args below meth c H locs 0 0 Q (F0 m pc ls (As.reverse ++ .ref (E.2.1 b) :: rest)) := by
  obtain ⟨hx, hbc, hml, -, hown, hts, -⟩ := C
  obtain ⟨⟨hc, hi, hd1⟩, hin, hse⟩ := hy
  obtain ⟨q, -, hq⟩ := ho_at hb.1
  have he := hq E S
  rw [ho_c1 hb.2] at he
  subst hC
  have hroom : (ho_rm d2).frames + 1 ≤ (ho_rm d).frames ∧ 8 + (mL + 11) + (ho_rm d2).locals ≤ (ho_rm d).locals := ⟨hd, by show 8 + (mL + 11) + 64 * d2 ≤ 64 * d; omega⟩
  refine ho_call (va_runV (As := As) (rest := rest) ⟨hx, hbc, hml, hown, hts⟩ (hM H.size) ⟨callB_of n hts (ho_good hc) rfl rfl rfl (hts _ hi) (hts _ hlk) hd1 hroom, hts _ hin, hts _ hse⟩ ⟨ho_blind, va_recv hR.1 hR.2.1 F.1 he, ho_pre hR _⟩ rfl hn hsz rfl (lv_room hst) hdg ⟨Nat.zero_le _, Nat.zero_le _⟩) hR hA kk
/-- invokestatic -/
theorem ho_callS {y : MethodName} {by2 : ByteArray} {mL n d d2 idx : Nat} {rt : Option FieldType} {As : List Value} {x : Option Value × Hp} (C : ho_I p s m args meth c own cc nL ret) (hM : ho_M l Y E y by2 mL rt d2 As S x) (hy : ho_yS y by2 mL rt n) (hlk : Cond.methodLink own idx y ∈ gw) (hn : As.length = n)
    (hsz : ls.size = nL) (hst : (rest.map fun v => v.category).sum ≤ 8) (hd : d2 + 1 ≤ d) (hmL : mL ≤ 45) (hR : ho_R Y E A s H0 H locs S) (hA : ∀ q, H0.size ≤ q → A q) (hdg : decode cc pc = .ok (.invokestatic idx, 3))
    (kk : ∀ (H1 : Heap) (locs1 : List Loc), ho_R Y E A s H0 H1 locs1 x.2 → W p l e (ho_rm d) s m args below meth c H1 locs1 0 0 Q (F0 m (pc + 3) ls (x.1.toList ++ rest))) : W p l e (ho_rm d) s m args below meth c H locs 0 0 Q (F0 m pc ls (As.reverse ++ rest)) := by
  obtain ⟨hx, hbc, hml, -, hown, hts, -⟩ := C
  obtain ⟨⟨hc, hi, hd1⟩, hstt⟩ := hy
  have hroom : (ho_rm d2).frames + 1 ≤ (ho_rm d).frames ∧ 8 + (mL + 11) + (ho_rm d2).locals ≤ (ho_rm d).locals := ⟨hd, by show 8 + (mL + 11) + 64 * d2 ≤ 64 * d; omega⟩
  refine ho_call (va_runS (As := As) (rest := rest) ⟨hx, hbc, hml, hown, hts⟩ (hM H.size) ⟨callB_of n hts (ho_good hc) rfl rfl rfl (hts _ hi) (hts _ hlk) hd1 hroom, hts _ hstt⟩ ⟨ho_blind, ho_pre hR _⟩ rfl hn hsz rfl (lv_room hst) hdg ⟨Nat.zero_le _, Nat.zero_le _⟩) hR hA kk
theorem ho_A (hR : ho_R Y E (va_A (ho_w Y E S0) s.heap.size) s s.heap H locs S) : ∀ q, s.heap.size ≤ q → va_A (ho_w Y E S0) s.heap.size q := fun _ h => Or.inr h
end HO3
/-! plain words that the methods' functions are made of -/
def ob {α β : Type} (x : Option α) (f : α → Option β) : Option β := match x with
  | some v => f v
  | none => none
def ob2 {α β : Type} (x : Option (α × Hp)) (f : α → Hp → Option β) : Option β := match x with
  | some v => f v.1 v.2
  | none => none
def le1 {α β : Type} (x : α) (f : α → β) : β := f x
theorem ob_ok {α β : Type} {x : Option α} {f : α → Option β} {r : β} (h : ob x f = some r) : ∃ v, x = some v ∧ f v = some r := by
  cases x with
  | none => cases h
  | some v => exact ⟨v, rfl, h⟩
theorem ob2_ok {α β : Type} {x : Option (α × Hp)} {f : α → Hp → Option β} {r : β} (h : ob2 x f = some r) : ∃ v S, x = some (v, S) ∧ f v S = some r := by
  cases x with
  | none => cases h
  | some v => exact ⟨v.1, v.2, rfl, h⟩
theorem le1_ok {α β : Type} {x : α} {f : α → β} {r : β} (h : le1 x f = r) : ∃ v, v = x ∧ f v = r := ⟨x, rfl, h⟩
theorem if_t {α : Type} {c : Prop} {_ : Decidable c} {a b r : α} (h : (if c then a else b) = r) (hc : c) : a = r := by rw [if_pos hc] at h; exact h
theorem if_f {α : Type} {c : Prop} {_ : Decidable c} {a b r : α} (h : (if c then a else b) = r) (hc : ¬ c) : b = r := by rw [if_neg hc] at h; exact h
/-- a place of a row: within it, or none -/
def ix {β : Type} (n : Nat) (i : Int32) (f : Nat → Option β) : Option β := if i < 0 ∨ n ≤ i.toNatClampNeg then none else f i.toNatClampNeg
theorem ix_ok {β : Type} {n : Nat} {i : Int32} {f : Nat → Option β} {r : β} (h : ix n i f = some r) : vp_in i n ∧ f i.toNatClampNeg = some r := by
  unfold ix at h
  by_cases hc : i < 0 ∨ n ≤ i.toNatClampNeg
  · rw [if_pos hc] at h; cases h
  · rw [if_neg hc] at h; exact ⟨hc, h⟩
/-- a truth: 0 or 1 -/
def tr {β : Type} (v : Int32) (x : Option β) : Option β := if v = 0 ∨ v = 1 then x else none
theorem tr_ok {β : Type} {v : Int32} {x : Option β} {r : β} (h : tr v x = some r) : (v = 0 ∨ v = 1) ∧ x = some r := by
  unfold tr at h
  by_cases hc : v = 0 ∨ v = 1
  · rw [if_pos hc] at h; exact ⟨hc, h⟩
  · rw [if_neg hc] at h; cases h
/-- a divisor: not 0 -/
def nz {β : Type} (v : Int32) (x : Option β) : Option β := if v = 0 then none else x
theorem nz_ok {β : Type} {v : Int32} {x : Option β} {r : β} (h : nz v x = some r) : ¬ v = 0 ∧ x = some r := by
  unfold nz at h
  by_cases hc : v = 0
  · rw [if_pos hc] at h; cases h
  · rw [if_neg hc] at h; exact ⟨hc, h⟩
def nzl {β : Type} (v : Int64) (x : Option β) : Option β := if v = 0 then none else x
theorem nzl_ok {β : Type} {v : Int64} {x : Option β} {r : β} (h : nzl v x = some r) : ¬ v = 0 ∧ x = some r := by
  unfold nzl at h
  by_cases hc : v = 0
  · rw [if_pos hc] at h; cases h
  · rw [if_neg hc] at h; exact ⟨hc, h⟩
theorem le1_at {α β : Type} {x y : α} {f : α → β} {r : β} (e : y = x) (h : le1 x f = r) : f y = r := by subst e; exact h
/-- a place of a row, read -/
def ldI {β : Type} (S : Hp) (a n : Nat) (i : Int32) (f : Int32 → Option β) : Option β := if i < 0 ∨ n ≤ i.toNatClampNeg then none else f (S.1 a i.toNatClampNeg)
def ldJ {β : Type} (S : Hp) (a n : Nat) (i : Int32) (f : Int64 → Option β) : Option β := if i < 0 ∨ n ≤ i.toNatClampNeg then none else f (S.2.1 a i.toNatClampNeg)
/-- a place of a row, written -/
def stI {β : Type} (S : Hp) (a n : Nat) (i v : Int32) (f : Hp → Option β) : Option β := if i < 0 ∨ n ≤ i.toNatClampNeg then none else f (ho_sI S a i.toNatClampNeg v)
def stJ {β : Type} (S : Hp) (a n : Nat) (i : Int32) (v : Int64) (f : Hp → Option β) : Option β := if i < 0 ∨ n ≤ i.toNatClampNeg then none else f (ho_sJ S a i.toNatClampNeg v)
theorem ldI_ok {β : Type} {S : Hp} {a n : Nat} {i : Int32} {f : Int32 → Option β} {r : β} (h : ldI S a n i f = some r) : ∃ v, v = S.1 a i.toNatClampNeg ∧ vp_in i n ∧ f v = some r := by
  unfold ldI at h
  by_cases hc : i < 0 ∨ n ≤ i.toNatClampNeg
  · rw [if_pos hc] at h; cases h
  · rw [if_neg hc] at h; exact ⟨_, rfl, hc, h⟩
theorem ldJ_ok {β : Type} {S : Hp} {a n : Nat} {i : Int32} {f : Int64 → Option β} {r : β} (h : ldJ S a n i f = some r) : ∃ v, v = S.2.1 a i.toNatClampNeg ∧ vp_in i n ∧ f v = some r := by
  unfold ldJ at h
  by_cases hc : i < 0 ∨ n ≤ i.toNatClampNeg
  · rw [if_pos hc] at h; cases h
  · rw [if_neg hc] at h; exact ⟨_, rfl, hc, h⟩
theorem stI_ok {β : Type} {S : Hp} {a n : Nat} {i v : Int32} {f : Hp → Option β} {r : β} (h : stI S a n i v f = some r) : ∃ S', S' = ho_sI S a i.toNatClampNeg v ∧ vp_in i n ∧ f S' = some r := by
  unfold stI at h
  by_cases hc : i < 0 ∨ n ≤ i.toNatClampNeg
  · rw [if_pos hc] at h; cases h
  · rw [if_neg hc] at h; exact ⟨_, rfl, hc, h⟩
theorem stJ_ok {β : Type} {S : Hp} {a n : Nat} {i : Int32} {v : Int64} {f : Hp → Option β} {r : β} (h : stJ S a n i v f = some r) : ∃ S', S' = ho_sJ S a i.toNatClampNeg v ∧ vp_in i n ∧ f S' = some r := by
  unfold stJ at h
  by_cases hc : i < 0 ∨ n ≤ i.toNatClampNeg
  · rw [if_pos hc] at h; cases h
  · rw [if_neg hc] at h; exact ⟨_, rfl, hc, h⟩
/-- the goal at a place of a method's code -/
abbrev ho_G (p : Program) (l : Launch) (e : Env) (s : State) (m : MethodId) (args : Array Value) (below : List Frame) (meth : Method) (c : Code) (Y : Sy) (E : Ev) (S0 : Hp) (d mL : Nat) (x : Option Value × Hp) (pc : Nat) (lv : List (Nat × Value)) (st : List Value) (S : Hp) : Prop :=
  ∀ (H : Heap) (locs : List Loc) (ls : Array Slot), ho_R Y E (va_A (ho_w Y E S0) s.heap.size) s s.heap H locs S → lv_has ls mL lv → W p l e (ho_rm d) s m args below meth c H locs 0 0 (ho_Z Y E S0 below args s x) (F0 m pc ls st)
section HO4
variable {p : Program} {l : Launch} {e : Env} {R : Room} {s : State} {m : MethodId} {args : Array Value} {below : List Frame} {meth : Method} {c : Code} {H H0 : Heap} {locs : List Loc} {Q : State → Prop}
variable {Y : Sy} {E : Ev} {A : Nat → Prop} {S S' : Hp} {own : String} {cc : ByteArray} {nL : Nat} {ret : Option FieldType} {pc : Nat} {ls : Array Slot} {rest : List Value}
variable {a ci k idx N n : Nat} {Cn : String} {T : u_T} {ty : Nat → FieldType} {v i : Int32} {w : Int64}
theorem hr_putI (C : ho_I p s m args meth c own cc nL ret) (F : ho_F ci Cn T ty N) (hf : ho_f Y own ci T N idx k 0 .int false) (hR : ho_R Y E A s H0 H locs S) (ha : a ∈ Y.1 ∧ Y.2.1 a = (1, ci)) (e1 : S' = ho_sI S a k v) (hdg : decode cc pc = .ok (.putfield idx, 3))
    (kk : ∀ (H1 : Heap) (locs1 : List Loc), ho_R Y E A s H0 H1 locs1 S' → W p l e R s m args below meth c H1 locs1 0 0 Q (F0 m (pc + 3) ls rest)) : W p l e R s m args below meth c H locs 0 0 Q (F0 m pc ls (.int v :: .ref (E.2.1 a) :: rest)) := by
  subst e1; exact ho_putI C F hf hR ha hdg kk
theorem hr_putZ (C : ho_I p s m args meth c own cc nL ret) (F : ho_F ci Cn T ty N) (hf : ho_f Y own ci T N idx k 0 .boolean false) (hR : ho_R Y E A s H0 H locs S) (ha : a ∈ Y.1 ∧ Y.2.1 a = (1, ci)) (hz : v = 0 ∨ v = 1) (e1 : S' = ho_sI S a k v) (hdg : decode cc pc = .ok (.putfield idx, 3))
    (kk : ∀ (H1 : Heap) (locs1 : List Loc), ho_R Y E A s H0 H1 locs1 S' → W p l e R s m args below meth c H1 locs1 0 0 Q (F0 m (pc + 3) ls rest)) : W p l e R s m args below meth c H locs 0 0 Q (F0 m pc ls (.int v :: .ref (E.2.1 a) :: rest)) := by
  subst e1; exact ho_putZ C F hf hR ha hz hdg kk
theorem hr_putJ (C : ho_I p s m args meth c own cc nL ret) (F : ho_F ci Cn T ty N) (hf : ho_f Y own ci T N idx k 1 .long false) (hR : ho_R Y E A s H0 H locs S) (ha : a ∈ Y.1 ∧ Y.2.1 a = (1, ci)) (e1 : S' = ho_sJ S a k w) (hdg : decode cc pc = .ok (.putfield idx, 3))
    (kk : ∀ (H1 : Heap) (locs1 : List Loc), ho_R Y E A s H0 H1 locs1 S' → W p l e R s m args below meth c H1 locs1 0 0 Q (F0 m (pc + 3) ls rest)) : W p l e R s m args below meth c H locs 0 0 Q (F0 m pc ls (.long w :: .ref (E.2.1 a) :: rest)) := by
  subst e1; exact ho_putJ C F hf hR ha hdg kk
theorem hr_ild (C : ho_I p s m args meth c own cc nL ret) (hR : ho_R Y E A s H0 H locs S) (ha : a ∈ Y.1 ∧ Y.2.1 a = (4, n)) (hin : vp_in i n) (e1 : v = S.1 a i.toNatClampNeg) (hdg : decode cc pc = .ok (.iaload, 1))
    (kk : W p l e R s m args below meth c H locs 0 0 Q (F0 m (pc + 1) ls (.int v :: rest))) : W p l e R s m args below meth c H locs 0 0 Q (F0 m pc ls (.int i :: .ref (E.2.1 a) :: rest)) := by
  subst e1; exact ho_ild C hR ha hin hdg kk
theorem hr_cld (C : ho_I p s m args meth c own cc nL ret) (hR : ho_R Y E A s H0 H locs S) (ha : a ∈ Y.1 ∧ Y.2.1 a = (3, n)) (hin : vp_in i n) (e1 : v = S.1 a i.toNatClampNeg) (hdg : decode cc pc = .ok (.caload, 1))
    (kk : W p l e R s m args below meth c H locs 0 0 Q (F0 m (pc + 1) ls (.int v :: rest))) : W p l e R s m args below meth c H locs 0 0 Q (F0 m pc ls (.int i :: .ref (E.2.1 a) :: rest)) := by
  subst e1; exact ho_cld C hR ha hin hdg kk
theorem hr_bld (C : ho_I p s m args meth c own cc nL ret) (hR : ho_R Y E A s H0 H locs S) (ha : a ∈ Y.1 ∧ Y.2.1 a = (2, n)) (hin : vp_in i n) (e1 : v = S.1 a i.toNatClampNeg) (hdg : decode cc pc = .ok (.baload, 1))
    (kk : W p l e R s m args below meth c H locs 0 0 Q (F0 m (pc + 1) ls (.int v :: rest))) : W p l e R s m args below meth c H locs 0 0 Q (F0 m pc ls (.int i :: .ref (E.2.1 a) :: rest)) := by
  subst e1; exact ho_bld C hR ha hin hdg kk
theorem hr_zld (C : ho_I p s m args meth c own cc nL ret) (hR : ho_R Y E A s H0 H locs S) (ha : a ∈ Y.1 ∧ Y.2.1 a = (6, n)) (hin : vp_in i n) (e1 : v = S.1 a i.toNatClampNeg) (hdg : decode cc pc = .ok (.baload, 1))
    (kk : W p l e R s m args below meth c H locs 0 0 Q (F0 m (pc + 1) ls (.int v :: rest))) : W p l e R s m args below meth c H locs 0 0 Q (F0 m pc ls (.int i :: .ref (E.2.1 a) :: rest)) := by
  subst e1; exact ho_zld C hR ha hin hdg kk
theorem hr_lld (C : ho_I p s m args meth c own cc nL ret) (hR : ho_R Y E A s H0 H locs S) (ha : a ∈ Y.1 ∧ Y.2.1 a = (5, n)) (hin : vp_in i n) (e1 : w = S.2.1 a i.toNatClampNeg) (hdg : decode cc pc = .ok (.laload, 1))
    (kk : W p l e R s m args below meth c H locs 0 0 Q (F0 m (pc + 1) ls (.long w :: rest))) : W p l e R s m args below meth c H locs 0 0 Q (F0 m pc ls (.int i :: .ref (E.2.1 a) :: rest)) := by
  subst e1; exact ho_lld C hR ha hin hdg kk
theorem hr_ist (C : ho_I p s m args meth c own cc nL ret) (hR : ho_R Y E A s H0 H locs S) (ha : a ∈ Y.1 ∧ Y.2.1 a = (4, n)) (hin : vp_in i n) (e1 : S' = ho_sI S a i.toNatClampNeg v) (hdg : decode cc pc = .ok (.iastore, 1))
    (kk : ∀ (H1 : Heap) (locs1 : List Loc), ho_R Y E A s H0 H1 locs1 S' → W p l e R s m args below meth c H1 locs1 0 0 Q (F0 m (pc + 1) ls rest)) : W p l e R s m args below meth c H locs 0 0 Q (F0 m pc ls (.int v :: .int i :: .ref (E.2.1 a) :: rest)) := by
  subst e1; exact ho_ist C hR ha hin hdg kk
theorem hr_bst (C : ho_I p s m args meth c own cc nL ret) (hR : ho_R Y E A s H0 H locs S) (ha : a ∈ Y.1 ∧ Y.2.1 a = (2, n)) (hin : vp_in i n) (e1 : S' = ho_sI S a i.toNatClampNeg (vp_nar .byte v)) (hdg : decode cc pc = .ok (.bastore, 1))
    (kk : ∀ (H1 : Heap) (locs1 : List Loc), ho_R Y E A s H0 H1 locs1 S' → W p l e R s m args below meth c H1 locs1 0 0 Q (F0 m (pc + 1) ls rest)) : W p l e R s m args below meth c H locs 0 0 Q (F0 m pc ls (.int v :: .int i :: .ref (E.2.1 a) :: rest)) := by
  subst e1; exact ho_bst C hR ha hin hdg kk
theorem hr_zst (C : ho_I p s m args meth c own cc nL ret) (hR : ho_R Y E A s H0 H locs S) (ha : a ∈ Y.1 ∧ Y.2.1 a = (6, n)) (hin : vp_in i n) (e1 : S' = ho_sI S a i.toNatClampNeg (vp_nar .boolean v)) (hdg : decode cc pc = .ok (.bastore, 1))
    (kk : ∀ (H1 : Heap) (locs1 : List Loc), ho_R Y E A s H0 H1 locs1 S' → W p l e R s m args below meth c H1 locs1 0 0 Q (F0 m (pc + 1) ls rest)) : W p l e R s m args below meth c H locs 0 0 Q (F0 m pc ls (.int v :: .int i :: .ref (E.2.1 a) :: rest)) := by
  subst e1; exact ho_zst C hR ha hin hdg kk
theorem hr_lst (C : ho_I p s m args meth c own cc nL ret) (hR : ho_R Y E A s H0 H locs S) (ha : a ∈ Y.1 ∧ Y.2.1 a = (5, n)) (hin : vp_in i n) (e1 : S' = ho_sJ S a i.toNatClampNeg w) (hdg : decode cc pc = .ok (.lastore, 1))
    (kk : ∀ (H1 : Heap) (locs1 : List Loc), ho_R Y E A s H0 H1 locs1 S' → W p l e R s m args below meth c H1 locs1 0 0 Q (F0 m (pc + 1) ls rest)) : W p l e R s m args below meth c H locs 0 0 Q (F0 m pc ls (.long w :: .int i :: .ref (E.2.1 a) :: rest)) := by
  subst e1; exact ho_lst C hR ha hin hdg kk
end HO4
section HO5
variable {p : Program} {l : Launch} {e : Env} {s : State} {m : MethodId} {args : Array Value} {below : List Frame} {meth : Method} {c : Code} {H H0 : Heap} {locs : List Loc} {Q : State → Prop}
variable {Y : Sy} {E : Ev} {A : Nat → Prop} {S S' : Hp} {own : String} {cc : ByteArray} {nL : Nat} {ret : Option FieldType} {pc : Nat} {ls : Array Slot} {rest st0 : List Value}
variable {y : MethodName} {by2 : ByteArray} {mL n d d2 idx b ci N : Nat} {rt : Option FieldType} {Cn : String} {T : u_T} {ty : Nat → FieldType} {As : List Value} {v : Int32} {w : Int64}
theorem hr_Vi (C : ho_I p s m args meth c own cc nL ret) (F : ho_F ci Cn T ty N) (hM : ho_M l Y E y by2 mL rt d2 (.ref (E.2.1 b) :: As) S (some (.int v), S')) (hy : ho_yV y by2 mL rt n) (hlk : Cond.methodLink own idx y ∈ gw) (hC : y.cls = Cn) (hb : b ∈ Y.1 ∧ Y.2.1 b = (1, ci)) (hn : As.length = n) (h0 : st0 = As.reverse ++ .ref (E.2.1 b) :: rest)
    (hsz : ls.size = nL) (hst : (rest.map fun v => v.category).sum ≤ 8) (hd : d2 + 1 ≤ d) (hmL : mL ≤ 45) (hR : ho_R Y E A s H0 H locs S) (hA : ∀ q, H0.size ≤ q → A q) (hdg : decode cc pc = .ok (.invokevirtual idx, 3))
    (kk : ∀ (H1 : Heap) (locs1 : List Loc), ho_R Y E A s H0 H1 locs1 S' → W p l e (ho_rm d) s m args below meth c H1 locs1 0 0 Q (F0 m (pc + 3) ls (.int v :: rest))) : W p l e (ho_rm d) s m args below meth c H locs 0 0 Q (F0 m pc ls st0) := by
  subst h0; exact ho_callV C F hM hy hlk hC hb hn hsz hst hd hmL hR hA hdg kk
theorem hr_Vl (C : ho_I p s m args meth c own cc nL ret) (F : ho_F ci Cn T ty N) (hM : ho_M l Y E y by2 mL rt d2 (.ref (E.2.1 b) :: As) S (some (.long w), S')) (hy : ho_yV y by2 mL rt n) (hlk : Cond.methodLink own idx y ∈ gw) (hC : y.cls = Cn) (hb : b ∈ Y.1 ∧ Y.2.1 b = (1, ci)) (hn : As.length = n) (h0 : st0 = As.reverse ++ .ref (E.2.1 b) :: rest)
    (hsz : ls.size = nL) (hst : (rest.map fun v => v.category).sum ≤ 8) (hd : d2 + 1 ≤ d) (hmL : mL ≤ 45) (hR : ho_R Y E A s H0 H locs S) (hA : ∀ q, H0.size ≤ q → A q) (hdg : decode cc pc = .ok (.invokevirtual idx, 3))
    (kk : ∀ (H1 : Heap) (locs1 : List Loc), ho_R Y E A s H0 H1 locs1 S' → W p l e (ho_rm d) s m args below meth c H1 locs1 0 0 Q (F0 m (pc + 3) ls (.long w :: rest))) : W p l e (ho_rm d) s m args below meth c H locs 0 0 Q (F0 m pc ls st0) := by
  subst h0; exact ho_callV C F hM hy hlk hC hb hn hsz hst hd hmL hR hA hdg kk
theorem hr_Vv (C : ho_I p s m args meth c own cc nL ret) (F : ho_F ci Cn T ty N) (hM : ho_M l Y E y by2 mL rt d2 (.ref (E.2.1 b) :: As) S (none, S')) (hy : ho_yV y by2 mL rt n) (hlk : Cond.methodLink own idx y ∈ gw) (hC : y.cls = Cn) (hb : b ∈ Y.1 ∧ Y.2.1 b = (1, ci)) (hn : As.length = n) (h0 : st0 = As.reverse ++ .ref (E.2.1 b) :: rest)
    (hsz : ls.size = nL) (hst : (rest.map fun v => v.category).sum ≤ 8) (hd : d2 + 1 ≤ d) (hmL : mL ≤ 45) (hR : ho_R Y E A s H0 H locs S) (hA : ∀ q, H0.size ≤ q → A q) (hdg : decode cc pc = .ok (.invokevirtual idx, 3))
    (kk : ∀ (H1 : Heap) (locs1 : List Loc), ho_R Y E A s H0 H1 locs1 S' → W p l e (ho_rm d) s m args below meth c H1 locs1 0 0 Q (F0 m (pc + 3) ls rest)) : W p l e (ho_rm d) s m args below meth c H locs 0 0 Q (F0 m pc ls st0) := by
  subst h0; exact ho_callV C F hM hy hlk hC hb hn hsz hst hd hmL hR hA hdg kk
theorem hr_Si (C : ho_I p s m args meth c own cc nL ret) (hM : ho_M l Y E y by2 mL rt d2 As S (some (.int v), S')) (hy : ho_yS y by2 mL rt n) (hlk : Cond.methodLink own idx y ∈ gw) (hn : As.length = n) (h0 : st0 = As.reverse ++ rest)
    (hsz : ls.size = nL) (hst : (rest.map fun v => v.category).sum ≤ 8) (hd : d2 + 1 ≤ d) (hmL : mL ≤ 45) (hR : ho_R Y E A s H0 H locs S) (hA : ∀ q, H0.size ≤ q → A q) (hdg : decode cc pc = .ok (.invokestatic idx, 3))
    (kk : ∀ (H1 : Heap) (locs1 : List Loc), ho_R Y E A s H0 H1 locs1 S' → W p l e (ho_rm d) s m args below meth c H1 locs1 0 0 Q (F0 m (pc + 3) ls (.int v :: rest))) : W p l e (ho_rm d) s m args below meth c H locs 0 0 Q (F0 m pc ls st0) := by
  subst h0; exact ho_callS C hM hy hlk hn hsz hst hd hmL hR hA hdg kk
theorem hr_Sl (C : ho_I p s m args meth c own cc nL ret) (hM : ho_M l Y E y by2 mL rt d2 As S (some (.long w), S')) (hy : ho_yS y by2 mL rt n) (hlk : Cond.methodLink own idx y ∈ gw) (hn : As.length = n) (h0 : st0 = As.reverse ++ rest)
    (hsz : ls.size = nL) (hst : (rest.map fun v => v.category).sum ≤ 8) (hd : d2 + 1 ≤ d) (hmL : mL ≤ 45) (hR : ho_R Y E A s H0 H locs S) (hA : ∀ q, H0.size ≤ q → A q) (hdg : decode cc pc = .ok (.invokestatic idx, 3))
    (kk : ∀ (H1 : Heap) (locs1 : List Loc), ho_R Y E A s H0 H1 locs1 S' → W p l e (ho_rm d) s m args below meth c H1 locs1 0 0 Q (F0 m (pc + 3) ls (.long w :: rest))) : W p l e (ho_rm d) s m args below meth c H locs 0 0 Q (F0 m pc ls st0) := by
  subst h0; exact ho_callS C hM hy hlk hn hsz hst hd hmL hR hA hdg kk
theorem hr_Sv (C : ho_I p s m args meth c own cc nL ret) (hM : ho_M l Y E y by2 mL rt d2 As S (none, S')) (hy : ho_yS y by2 mL rt n) (hlk : Cond.methodLink own idx y ∈ gw) (hn : As.length = n) (h0 : st0 = As.reverse ++ rest)
    (hsz : ls.size = nL) (hst : (rest.map fun v => v.category).sum ≤ 8) (hd : d2 + 1 ≤ d) (hmL : mL ≤ 45) (hR : ho_R Y E A s H0 H locs S) (hA : ∀ q, H0.size ≤ q → A q) (hdg : decode cc pc = .ok (.invokestatic idx, 3))
    (kk : ∀ (H1 : Heap) (locs1 : List Loc), ho_R Y E A s H0 H1 locs1 S' → W p l e (ho_rm d) s m args below meth c H1 locs1 0 0 Q (F0 m (pc + 3) ls rest)) : W p l e (ho_rm d) s m args below meth c H locs 0 0 Q (F0 m pc ls st0) := by
  subst h0; exact ho_callS C hM hy hlk hn hsz hst hd hmL hR hA hdg kk
end HO5
/-- a class's layout words, by their places in the tables -/
theorem ho_inOf {C : String} {T : u_T} {N : Nat} (L : List Nat) (h : (List.range N).all (fun k => decide (lw_tbl[L.getD k 0]? = some (u_lay C T k)) && goodWord (u_lay C T k)) = true) : ∀ w ∈ u_ws C T N, w ∈ gw := by
  intro w hw
  unfold u_ws at hw
  obtain ⟨k, hk, rfl⟩ := List.mem_map.mp hw
  have h1 := List.all_eq_true.mp h k hk
  simp only [Bool.and_eq_true, decide_eq_true_eq] at h1
  exact gw_of h1.1 h1.2
end
section
/-! rows for pointers that change, rows of rows, copies -/
def ho_sA (S : Hp) (a : Nat) (f : Nat → Int32) : Hp := (fun b => if b = a then f else S.1 b, S.2)
/-- a pointer that changes, read: it points to an object of that class -/
def ldP {β : Type} (Y : Sy) (S : Hp) (a k c : Nat) (f : Nat → Option β) : Option β := if S.2.2 a k ∈ Y.1 ∧ Y.2.1 (S.2.2 a k) = (1, c) then f (S.2.2 a k) else none
/-- a place of a row of rows or objects, read -/
def ldR {β : Type} (Y : Sy) (a n : Nat) (i : Int32) (t c : Nat) (f : Nat → Option β) : Option β := if i < 0 ∨ n ≤ i.toNatClampNeg then none else if Y.2.2.2.2.1 a i.toNatClampNeg ∈ Y.1 ∧ Y.2.1 (Y.2.2.2.2.1 a i.toNatClampNeg) = (t, c) then f (Y.2.2.2.2.1 a i.toNatClampNeg) else none
/-- System.arraycopy between rows of numbers -/
def cpI {β : Type} (S : Hp) (a0 n0 : Nat) (sp : Int32) (a1 n1 : Nat) (dp n : Int32) (f : Hp → Option β) : Option β :=
  if sp < 0 ∨ dp < 0 ∨ n < 0 ∨ n0 < sp.toNatClampNeg + n.toNatClampNeg ∨ n1 < dp.toNatClampNeg + n.toNatClampNeg then none else f (ho_sA S a1 (va_cpy (S.1 a0) (S.1 a1) sp.toNatClampNeg dp.toNatClampNeg n.toNatClampNeg))
theorem ldP_ok {β : Type} {Y : Sy} {S : Hp} {a k c : Nat} {f : Nat → Option β} {r : β} (h : ldP Y S a k c f = some r) : ∃ p, p = S.2.2 a k ∧ (p ∈ Y.1 ∧ Y.2.1 p = (1, c)) ∧ f p = some r := by
  unfold ldP at h
  by_cases hc : S.2.2 a k ∈ Y.1 ∧ Y.2.1 (S.2.2 a k) = (1, c)
  · rw [if_pos hc] at h; exact ⟨_, rfl, hc, h⟩
  · rw [if_neg hc] at h; cases h
theorem ldR_ok {β : Type} {Y : Sy} {a n t c : Nat} {i : Int32} {f : Nat → Option β} {r : β} (h : ldR Y a n i t c f = some r) : ∃ p, p = Y.2.2.2.2.1 a i.toNatClampNeg ∧ vp_in i n ∧ (p ∈ Y.1 ∧ Y.2.1 p = (t, c)) ∧ f p = some r := by
  unfold ldR at h
  by_cases hc : i < 0 ∨ n ≤ i.toNatClampNeg
  · rw [if_pos hc] at h; cases h
  · rw [if_neg hc] at h
    by_cases hd : Y.2.2.2.2.1 a i.toNatClampNeg ∈ Y.1 ∧ Y.2.1 (Y.2.2.2.2.1 a i.toNatClampNeg) = (t, c)
    · rw [if_pos hd] at h; exact ⟨_, rfl, hc, hd, h⟩
    · rw [if_neg hd] at h; cases h
theorem cpI_ok {β : Type} {S : Hp} {a0 n0 a1 n1 : Nat} {sp dp n : Int32} {f : Hp → Option β} {r : β} (h : cpI S a0 n0 sp a1 n1 dp n f = some r) : ∃ S', S' = ho_sA S a1 (va_cpy (S.1 a0) (S.1 a1) sp.toNatClampNeg dp.toNatClampNeg n.toNatClampNeg) ∧ (¬ sp < 0 ∧ ¬ dp < 0 ∧ ¬ n < 0 ∧ sp.toNatClampNeg + n.toNatClampNeg ≤ n0 ∧ dp.toNatClampNeg + n.toNatClampNeg ≤ n1) ∧ f S' = some r := by
  unfold cpI at h
  by_cases hc : sp < 0 ∨ dp < 0 ∨ n < 0 ∨ n0 < sp.toNatClampNeg + n.toNatClampNeg ∨ n1 < dp.toNatClampNeg + n.toNatClampNeg
  · rw [if_pos hc] at h; cases h
  · rw [if_neg hc] at h
    exact ⟨_, rfl, ⟨fun q => hc (Or.inl q), fun q => hc (Or.inr (Or.inl q)), fun q => hc (Or.inr (Or.inr (Or.inl q))), Nat.not_lt.mp fun q => hc (Or.inr (Or.inr (Or.inr (Or.inl q)))), Nat.not_lt.mp fun q => hc (Or.inr (Or.inr (Or.inr (Or.inr q))))⟩, h⟩
section HO7
variable {p : Program} {l : Launch} {e : Env} {R : Room} {s : State} {m : MethodId} {args : Array Value} {below : List Frame} {meth : Method} {c : Code} {H H0 : Heap} {locs : List Loc} {Q : State → Prop}
variable {Y : Sy} {E : Ev} {A : Nat → Prop} {S S' : Hp} {own : String} {cc : ByteArray} {nL : Nat} {ret : Option FieldType} {pc : Nat} {ls : Array Slot} {rest : List Value}
variable {a ci k idx N n q0 : Nat} {Cn D : String} {T : u_T} {ty : Nat → FieldType} {v i : Int32} {w : Int64}
theorem hr_getP (C : ho_I p s m args meth c own cc nL ret) (F : ho_F ci Cn T ty N) {ft : FieldType} {fin : Bool} (hf : ho_f Y own ci T N idx k 3 ft fin) (hR : ho_R Y E A s H0 H locs S) (ha : a ∈ Y.1 ∧ Y.2.1 a = (1, ci)) (e1 : q0 = S.2.2 a k) (hdg : decode cc pc = .ok (.getfield idx, 3))
    (kk : W p l e R s m args below meth c H locs 0 0 Q (F0 m (pc + 3) ls (.ref (E.2.1 q0) :: rest))) : W p l e R s m args below meth c H locs 0 0 Q (F0 m pc ls (.ref (E.2.1 a) :: rest)) := by
  subst e1; exact ho_getP C F hf hR ha hdg kk
theorem hr_putP (C : ho_I p s m args meth c own cc nL ret) (F : ho_F ci Cn T ty N) (hf : ho_f Y own ci T N idx k 3 (.object D) false) (hR : ho_R Y E A s H0 H locs S) (ha : a ∈ Y.1 ∧ Y.2.1 a = (1, ci)) (e1 : S' = ho_sP S a k q0) (hdg : decode cc pc = .ok (.putfield idx, 3))
    (kk : ∀ (H1 : Heap) (locs1 : List Loc), ho_R Y E A s H0 H1 locs1 S' → W p l e R s m args below meth c H1 locs1 0 0 Q (F0 m (pc + 3) ls rest)) : W p l e R s m args below meth c H locs 0 0 Q (F0 m pc ls (.ref (E.2.1 q0) :: .ref (E.2.1 a) :: rest)) := by
  subst e1; exact ho_putP C F hf hR ha hdg kk
theorem hr_old (C : ho_I p s m args meth c own cc nL ret) (hR : ho_R Y E A s H0 H locs S) (ha : a ∈ Y.1 ∧ Y.2.1 a = (7, n)) (hin : vp_in i n) (e1 : q0 = Y.2.2.2.2.1 a i.toNatClampNeg) (hdg : decode cc pc = .ok (.aaload, 1))
    (kk : W p l e R s m args below meth c H locs 0 0 Q (F0 m (pc + 1) ls (.ref (E.2.1 q0) :: rest))) : W p l e R s m args below meth c H locs 0 0 Q (F0 m pc ls (.int i :: .ref (E.2.1 a) :: rest)) := by
  subst e1
  obtain ⟨q, -, hq⟩ := ho_at ha.1
  have he := hq E S
  rw [(ho_cA ha.2).2.2.2.2.2.1 rfl] at he
  exact va_aldq C.1 C.2.1 hR.1 hR.2.1 q 5 he rfl hin hdg kk
theorem hr_rld (C : ho_I p s m args meth c own cc nL ret) (hR : ho_R Y E A s H0 H locs S) (ha : a ∈ Y.1 ∧ Y.2.1 a = (8, n)) (hin : vp_in i n) (e1 : q0 = Y.2.2.2.2.1 a i.toNatClampNeg) (hdg : decode cc pc = .ok (.aaload, 1))
    (kk : W p l e R s m args below meth c H locs 0 0 Q (F0 m (pc + 1) ls (.ref (E.2.1 q0) :: rest))) : W p l e R s m args below meth c H locs 0 0 Q (F0 m pc ls (.int i :: .ref (E.2.1 a) :: rest)) := by
  subst e1
  obtain ⟨q, -, hq⟩ := ho_at ha.1
  have he := hq E S
  rw [(ho_cA ha.2).2.2.2.2.2.2 rfl] at he
  have hlt : i.toNatClampNeg < n := Nat.not_le.mp fun q => hin (Or.inr q)
  exact W.aald (v := .ref (E.2.1 (Y.2.2.2.2.1 a i.toNatClampNeg))) (ty := .array .int) C.1 C.2.1 (hR.2.1 q _ he) ((hR.1.2 6 (E.2.2 6, .array .int) rfl).1 n (fun j => va_rf (some (E.2.1 (Y.2.2.2.2.1 a j))))) rfl (fun q => by cases q) (by show ¬ (i < 0 ∨ (arrV _ _ _).slots.size ≤ _); rw [arrV_size]; exact hin) (by show (arrV _ _ _).slots[_]? = _; rw [arrV_read _ _ hlt]; rfl) rfl rfl hdg kk
theorem ho_cS {f : Nat → Int32} : ∀ b, b ≠ a → ho_c Y E (ho_sA S a f) b = ho_c Y E S b := by
  intro b hb
  have e : (ho_sA S a f).1 b = S.1 b := if_neg hb
  have e2 : ho_v Y E (ho_sA S a f) b = ho_v Y E S b := by
    funext c j
    unfold ho_v
    rw [e]
    rfl
  unfold ho_c
  rw [e, e2]
  rfl
theorem ho_uS {f : Nat → Int32} : (ho_sA S a f).1 a = f := if_pos rfl
/-- the words of System.arraycopy -/
abbrev ho_ac (own : String) (idx : Nat) : Prop := Cond.methodLink own idx arraycopyName ∈ gw ∧ Cond.native arraycopyName ∈ gw ∧ Cond.static arraycopyName ∈ gw ∧ Cond.initialized "java/lang/System" ∈ gw
theorem hr_cpy {a0 a1 n0 n1 d : Nat} {sp dp nn : Int32} (C : ho_I p s m args meth c own cc nL ret) (hw : ho_ac own idx) (hR : ho_R Y E A s H0 H locs S) (ha0 : a0 ∈ Y.1 ∧ Y.2.1 a0 = (4, n0)) (ha1 : a1 ∈ Y.1 ∧ Y.2.1 a1 = (4, n1)) (hh : ¬ sp < 0 ∧ ¬ dp < 0 ∧ ¬ nn < 0 ∧ sp.toNatClampNeg + nn.toNatClampNeg ≤ n0 ∧ dp.toNatClampNeg + nn.toNatClampNeg ≤ n1) (e1 : S' = ho_sA S a1 (va_cpy (S.1 a0) (S.1 a1) sp.toNatClampNeg dp.toNatClampNeg nn.toNatClampNeg))
    (hsz : ls.size = nL) (hst : (rest.map fun v => v.category).sum ≤ 8) (hd : 1 ≤ d) (hdg : decode cc pc = .ok (.invokestatic idx, 3))
    (kk : ∀ (H1 : Heap) (locs1 : List Loc), ho_R Y E A s H0 H1 locs1 S' → W p l e (ho_rm d) s m args below meth c H1 locs1 0 0 Q (F0 m (pc + 3) ls rest)) : W p l e (ho_rm d) s m args below meth c H locs 0 0 Q (F0 m pc ls (.int nn :: .int dp :: .ref (E.2.1 a1) :: .int sp :: .ref (E.2.1 a0) :: rest)) := by
  subst e1
  obtain ⟨hx, hb, hml, -, hown, hts, -⟩ := C
  obtain ⟨w1, w2, w3, w4⟩ := hw
  obtain ⟨q, -, hq⟩ := ho_at ha0.1
  have he := hq E S
  rw [(ho_cA ha0.2).2.2.1 rfl] at he
  obtain ⟨q1, hq10, hq1⟩ := ho_at ha1.1
  have he1 := hq1 E S
  rw [(ho_cA ha1.2).2.2.1 rfl] at he1
  obtain ⟨hK, hP, hD, hS⟩ := hR
  refine va_copyi (R := ho_rm d) hx hb (by rw [hml]; exact hsz.symm) hown (hts _ w1) (hts _ w2) (hts _ w3) (hts _ w4) hK hP hD hS q q1 2 2 he he1 rfl rfl rfl hh.1 hh.2.1 hh.2.2.1 hh.2.2.2.1 hh.2.2.2.2 (fun _ _ => rfl) hd ?_ hdg (fun H1 locs1 hP hD2 hS => ?_)
  · show (rest.map fun v => v.category).sum + (nativeFrameWords "java/lang/System" "arraycopy" 5 + 11) ≤ 64 * d
    have h9 : nativeFrameWords "java/lang/System" "arraycopy" 5 ≤ 40 := by decide
    omega
  · rw [← ho_uS (S := S) (a := a1) (f := va_cpy (S.1 a0) (S.1 a1) sp.toNatClampNeg dp.toNatClampNeg nn.toNatClampNeg), ← (ho_cA (E := E) (S := ho_sA S a1 (va_cpy (S.1 a0) (S.1 a1) sp.toNatClampNeg dp.toNatClampNeg nn.toNatClampNeg)) ha1.2).2.2.1 rfl, ho_set hD hq10 ho_cS] at hP hD2
    exact kk H1 locs1 ⟨hK, hP, hD2, hS⟩
end HO7
/-- as ho_in, for a method of a class some of whose methods the machine has of its own, but not this one -/
theorem ho_inF {l : Launch} {Y : Sy} {E : Ev} {y : MethodName} {cc : ByteArray} {mL : Nat} {ret : Option FieldType} {d : Nat} {av : List Value} {S : Hp} {x : Option Value × Hp} (hy : plainFor y = true) (ha : (lg_sl av).length ≤ mL)
    (body : ∀ (p : Program) (e : Env) (s : State) (m : MethodId) (args : Array Value) (below : List Frame) (meth : Method) (c : Code), ho_I p s m args meth c y.cls cc mL ret → ho_R Y E (va_A (ho_w Y E S) s.heap.size) s s.heap s.heap [] S → ∀ ls : Array Slot, lv_has ls mL (lv_args 0 av) → W p l e (ho_rm d) s m args below meth c s.heap [] 0 0 (ho_Z Y E S below args s x) (F0 m 0 ls [])) : ho_M l Y E y cc mL ret d av S x := by
  intro sz
  refine MetFree.of_bodySF (code := cc) (maxLocals := mL) (ret := ret) hy ?_ ?_
  · intro args s m h hn
    obtain ⟨meth, c, h1, h2, h3, h4, h5, h6, -, -⟩ := Cond.code_spec hn (atoms_spec (ws := ho_ws y cc mL ret) h _ List.mem_cons_self)
    exact ⟨meth, c, h1, h2, h3, h4, h5, h6⟩
  · intro p e s m args below meth c s₁ B hml hv _
    have hh0 : s₁.heap = s.heap := by rw [B.state]; rfl
    obtain ⟨rfl, hsz, hP, hK, hD⟩ := hv
    subst hsz
    have hts := atoms_spec (ws := ho_ws y cc mL ret) B.pre
    have hl := lv_entry av (n := mL) ha
    have K := body p e s m _ below meth c ⟨B.exec, B.bytes, hml, B.returns, findClass_of_methodNamed B.named, fun w hw => hts w (List.mem_cons_of_mem _ hw), B.notSynchronized⟩ ⟨hK, hP, hD.self, va_S.rf⟩ _ hl
    rw [← lg_entry_eq] at K
    obtain ⟨t, a1, o, b1, b2, b3⟩ := K s₁ hh0 (Stand.of_body B)
    exact ⟨t, o, a1, b1, b2, ⟨b3.1, b3.2⟩⟩
theorem plF_J9_min_7cf53 : plainFor yJ9_min_7cf53 = true := by decide +kernel
theorem plF_J9_max_7cf53 : plainFor yJ9_max_7cf53 = true := by decide +kernel
theorem plF_J9_min_f86c9 : plainFor yJ9_min_f86c9 = true := by decide +kernel
theorem plF_J9_max_f86c9 : plainFor yJ9_max_f86c9 = true := by decide +kernel
theorem plF_J9_floorDiv_f86c9 : plainFor yJ9_floorDiv_f86c9 = true := by decide +kernel
-- a word of a part of the tables
theorem gt_1 {w : Cond} {i : Nat} (h : tables_1_1[i]? = some w) (hg : goodWord w = true) : w ∈ gw := List.mem_filter.mpr ⟨List.mem_append_right _ (List.mem_append_left _ (List.mem_of_getElem? h)), hg⟩
theorem gt_2 {w : Cond} {i : Nat} (h : tables_1_2[i]? = some w) (hg : goodWord w = true) : w ∈ gw := List.mem_filter.mpr ⟨List.mem_append_right _ (List.mem_append_right _ (List.mem_append_left _ (List.mem_of_getElem? h))), hg⟩
theorem gt_3 {w : Cond} {i : Nat} (h : tables_1_3[i]? = some w) (hg : goodWord w = true) : w ∈ gw := List.mem_filter.mpr ⟨List.mem_append_right _ (List.mem_append_right _ (List.mem_append_right _ (List.mem_append_left _ (List.mem_of_getElem? h)))), hg⟩
theorem gt_4 {w : Cond} {i : Nat} (h : tables_1_4[i]? = some w) (hg : goodWord w = true) : w ∈ gw := List.mem_filter.mpr ⟨List.mem_append_right _ (List.mem_append_right _ (List.mem_append_right _ (List.mem_append_right _ (List.mem_append_left _ (List.mem_of_getElem? h))))), hg⟩
theorem gt_5 {w : Cond} {i : Nat} (h : tables_1_5[i]? = some w) (hg : goodWord w = true) : w ∈ gw := List.mem_filter.mpr ⟨List.mem_append_right _ (List.mem_append_right _ (List.mem_append_right _ (List.mem_append_right _ (List.mem_append_right _ (List.mem_append_left _ (List.mem_of_getElem? h)))))), hg⟩
theorem gt_6 {w : Cond} {i : Nat} (h : tables_1_6[i]? = some w) (hg : goodWord w = true) : w ∈ gw := List.mem_filter.mpr ⟨List.mem_append_right _ (List.mem_append_right _ (List.mem_append_right _ (List.mem_append_right _ (List.mem_append_right _ (List.mem_append_right _ (List.mem_append_left _ (List.mem_of_getElem? h))))))), hg⟩
theorem gt_7 {w : Cond} {i : Nat} (h : tables_1_7[i]? = some w) (hg : goodWord w = true) : w ∈ gw := List.mem_filter.mpr ⟨List.mem_append_right _ (List.mem_append_right _ (List.mem_append_right _ (List.mem_append_right _ (List.mem_append_right _ (List.mem_append_right _ (List.mem_append_right _ (List.mem_append_left _ (List.mem_of_getElem? h)))))))), hg⟩
theorem gt_8 {w : Cond} {i : Nat} (h : tables_1_8[i]? = some w) (hg : goodWord w = true) : w ∈ gw := List.mem_filter.mpr ⟨List.mem_append_right _ (List.mem_append_right _ (List.mem_append_right _ (List.mem_append_right _ (List.mem_append_right _ (List.mem_append_right _ (List.mem_append_right _ (List.mem_append_right _ (List.mem_append_left _ (List.mem_of_getElem? h))))))))), hg⟩
theorem gt_9 {w : Cond} {i : Nat} (h : tables_1_9[i]? = some w) (hg : goodWord w = true) : w ∈ gw := List.mem_filter.mpr ⟨List.mem_append_right _ (List.mem_append_right _ (List.mem_append_right _ (List.mem_append_right _ (List.mem_append_right _ (List.mem_append_right _ (List.mem_append_right _ (List.mem_append_right _ (List.mem_append_right _ (List.mem_of_getElem? h))))))))), hg⟩
end
section
/-! the reference: one object (0), its rows (place of the field, and 1) -/
def shM : List (Nat × Nat) := [(1, 12), (4, 1600), (0, 0), (0, 0), (0, 0), (0, 0), (0, 0), (0, 0), (0, 0), (0, 0), (4, 6), (3, 4), (3, 4), (3, 4), (3, 6), (3, 6), (3, 5), (3, 5), (3, 4), (3, 4), (3, 5), (3, 4), (3, 5), (3, 4), (3, 5), (3, 6), (3, 4), (3, 5), (3, 4), (3, 6), (3, 5), (3, 5), (3, 4), (3, 4), (3, 2), (3, 3), (3, 3), (3, 3), (3, 3), (3, 3), (0, 0), (4, 6), (5, 36), (4, 6), (4, 24), (4, 36), (4, 20), (4, 4), (4, 4), (4, 4), (4, 3200), (0, 0), (0, 0), (0, 0), (0, 0), (4, 117), (4, 26), (0, 0), (0, 0), (4, 36), (4, 6), (4, 6), (4, 6), (0, 0), (0, 0), (0, 0), (4, 26), (0, 0), (4, 48), (4, 384), (6, 64), (0, 0), (4, 2340), (0, 0), (0, 0), (0, 0), (3, 5), (3, 4), (3, 5), (3, 5), (3, 4), (3, 5), (3, 3), (3, 3), (3, 2), (3, 3), (3, 3), (3, 3), (3, 4), (3, 5), (3, 4), (3, 4), (3, 5), (3, 5), (3, 6), (3, 6), (3, 5), (3, 5), (3, 4), (3, 4), (4, 1700), (0, 0), (4, 1700), (0, 0), (0, 0), (0, 0), (5, 1700), (0, 0), (0, 0), (0, 0), (4, 48), (0, 0)]
def kdM : List Nat := [2, 0, 0, 0, 0, 0, 0, 0, 0, 2, 2, 2, 2, 2, 2, 2, 2, 2, 2, 2, 2, 2, 2, 2, 2, 2, 2, 2, 2, 2, 2, 2, 2, 2, 2, 2, 2, 2, 2, 0, 2, 2, 2, 2, 2, 2, 2, 2, 2, 2, 0, 0, 0, 0, 2, 2, 0, 0, 2, 2, 2, 2, 0, 0, 0, 2, 0, 2, 2, 2, 0, 2, 0, 0, 1, 2, 2, 2, 2, 2, 2, 2, 2, 2, 2, 2, 2, 2, 2, 2, 2, 2, 2, 2, 2, 2, 2, 2, 2, 2, 0, 2, 0, 0, 0, 2, 0, 1, 0, 2, 0]
def yM : Sy := ((List.range 112).filter (fun a => (shM.getD a (0, 0)).1 != 0), fun a => shM.getD a (0, 0), fun _ k => kdM.getD k 0, fun _ k => k + 1, fun _ _ => 0, fun _ => 111)
theorem aM_0 : 0 ∈ yM.1 ∧ yM.2.1 0 = (1, 12) := by decide +kernel
theorem aM_1 : 1 ∈ yM.1 ∧ yM.2.1 1 = (4, 1600) := by decide +kernel
theorem aM_10 : 10 ∈ yM.1 ∧ yM.2.1 10 = (4, 6) := by decide +kernel
theorem aM_11 : 11 ∈ yM.1 ∧ yM.2.1 11 = (3, 4) := by decide +kernel
theorem aM_12 : 12 ∈ yM.1 ∧ yM.2.1 12 = (3, 4) := by decide +kernel
theorem aM_13 : 13 ∈ yM.1 ∧ yM.2.1 13 = (3, 4) := by decide +kernel
theorem aM_14 : 14 ∈ yM.1 ∧ yM.2.1 14 = (3, 6) := by decide +kernel
theorem aM_15 : 15 ∈ yM.1 ∧ yM.2.1 15 = (3, 6) := by decide +kernel
theorem aM_16 : 16 ∈ yM.1 ∧ yM.2.1 16 = (3, 5) := by decide +kernel
theorem aM_17 : 17 ∈ yM.1 ∧ yM.2.1 17 = (3, 5) := by decide +kernel
theorem aM_18 : 18 ∈ yM.1 ∧ yM.2.1 18 = (3, 4) := by decide +kernel
theorem aM_19 : 19 ∈ yM.1 ∧ yM.2.1 19 = (3, 4) := by decide +kernel
theorem aM_20 : 20 ∈ yM.1 ∧ yM.2.1 20 = (3, 5) := by decide +kernel
theorem aM_21 : 21 ∈ yM.1 ∧ yM.2.1 21 = (3, 4) := by decide +kernel
theorem aM_22 : 22 ∈ yM.1 ∧ yM.2.1 22 = (3, 5) := by decide +kernel
theorem aM_23 : 23 ∈ yM.1 ∧ yM.2.1 23 = (3, 4) := by decide +kernel
theorem aM_24 : 24 ∈ yM.1 ∧ yM.2.1 24 = (3, 5) := by decide +kernel
theorem aM_25 : 25 ∈ yM.1 ∧ yM.2.1 25 = (3, 6) := by decide +kernel
theorem aM_26 : 26 ∈ yM.1 ∧ yM.2.1 26 = (3, 4) := by decide +kernel
theorem aM_27 : 27 ∈ yM.1 ∧ yM.2.1 27 = (3, 5) := by decide +kernel
theorem aM_28 : 28 ∈ yM.1 ∧ yM.2.1 28 = (3, 4) := by decide +kernel
theorem aM_29 : 29 ∈ yM.1 ∧ yM.2.1 29 = (3, 6) := by decide +kernel
theorem aM_30 : 30 ∈ yM.1 ∧ yM.2.1 30 = (3, 5) := by decide +kernel
theorem aM_31 : 31 ∈ yM.1 ∧ yM.2.1 31 = (3, 5) := by decide +kernel
theorem aM_32 : 32 ∈ yM.1 ∧ yM.2.1 32 = (3, 4) := by decide +kernel
theorem aM_33 : 33 ∈ yM.1 ∧ yM.2.1 33 = (3, 4) := by decide +kernel
theorem aM_34 : 34 ∈ yM.1 ∧ yM.2.1 34 = (3, 2) := by decide +kernel
theorem aM_35 : 35 ∈ yM.1 ∧ yM.2.1 35 = (3, 3) := by decide +kernel
theorem aM_36 : 36 ∈ yM.1 ∧ yM.2.1 36 = (3, 3) := by decide +kernel
theorem aM_37 : 37 ∈ yM.1 ∧ yM.2.1 37 = (3, 3) := by decide +kernel
theorem aM_38 : 38 ∈ yM.1 ∧ yM.2.1 38 = (3, 3) := by decide +kernel
theorem aM_39 : 39 ∈ yM.1 ∧ yM.2.1 39 = (3, 3) := by decide +kernel
theorem aM_41 : 41 ∈ yM.1 ∧ yM.2.1 41 = (4, 6) := by decide +kernel
theorem aM_42 : 42 ∈ yM.1 ∧ yM.2.1 42 = (5, 36) := by decide +kernel
theorem aM_43 : 43 ∈ yM.1 ∧ yM.2.1 43 = (4, 6) := by decide +kernel
theorem aM_44 : 44 ∈ yM.1 ∧ yM.2.1 44 = (4, 24) := by decide +kernel
theorem aM_45 : 45 ∈ yM.1 ∧ yM.2.1 45 = (4, 36) := by decide +kernel
theorem aM_46 : 46 ∈ yM.1 ∧ yM.2.1 46 = (4, 20) := by decide +kernel
theorem aM_47 : 47 ∈ yM.1 ∧ yM.2.1 47 = (4, 4) := by decide +kernel
theorem aM_48 : 48 ∈ yM.1 ∧ yM.2.1 48 = (4, 4) := by decide +kernel
theorem aM_49 : 49 ∈ yM.1 ∧ yM.2.1 49 = (4, 4) := by decide +kernel
theorem aM_50 : 50 ∈ yM.1 ∧ yM.2.1 50 = (4, 3200) := by decide +kernel
theorem aM_55 : 55 ∈ yM.1 ∧ yM.2.1 55 = (4, 117) := by decide +kernel
theorem aM_56 : 56 ∈ yM.1 ∧ yM.2.1 56 = (4, 26) := by decide +kernel
theorem aM_59 : 59 ∈ yM.1 ∧ yM.2.1 59 = (4, 36) := by decide +kernel
theorem aM_60 : 60 ∈ yM.1 ∧ yM.2.1 60 = (4, 6) := by decide +kernel
theorem aM_61 : 61 ∈ yM.1 ∧ yM.2.1 61 = (4, 6) := by decide +kernel
theorem aM_62 : 62 ∈ yM.1 ∧ yM.2.1 62 = (4, 6) := by decide +kernel
theorem aM_66 : 66 ∈ yM.1 ∧ yM.2.1 66 = (4, 26) := by decide +kernel
theorem aM_68 : 68 ∈ yM.1 ∧ yM.2.1 68 = (4, 48) := by decide +kernel
theorem aM_69 : 69 ∈ yM.1 ∧ yM.2.1 69 = (4, 384) := by decide +kernel
theorem aM_70 : 70 ∈ yM.1 ∧ yM.2.1 70 = (6, 64) := by decide +kernel
theorem aM_72 : 72 ∈ yM.1 ∧ yM.2.1 72 = (4, 2340) := by decide +kernel
theorem aM_76 : 76 ∈ yM.1 ∧ yM.2.1 76 = (3, 5) := by decide +kernel
theorem aM_77 : 77 ∈ yM.1 ∧ yM.2.1 77 = (3, 4) := by decide +kernel
theorem aM_78 : 78 ∈ yM.1 ∧ yM.2.1 78 = (3, 5) := by decide +kernel
theorem aM_79 : 79 ∈ yM.1 ∧ yM.2.1 79 = (3, 5) := by decide +kernel
theorem aM_80 : 80 ∈ yM.1 ∧ yM.2.1 80 = (3, 4) := by decide +kernel
theorem aM_81 : 81 ∈ yM.1 ∧ yM.2.1 81 = (3, 5) := by decide +kernel
theorem aM_82 : 82 ∈ yM.1 ∧ yM.2.1 82 = (3, 3) := by decide +kernel
theorem aM_83 : 83 ∈ yM.1 ∧ yM.2.1 83 = (3, 3) := by decide +kernel
theorem aM_84 : 84 ∈ yM.1 ∧ yM.2.1 84 = (3, 2) := by decide +kernel
theorem aM_85 : 85 ∈ yM.1 ∧ yM.2.1 85 = (3, 3) := by decide +kernel
theorem aM_86 : 86 ∈ yM.1 ∧ yM.2.1 86 = (3, 3) := by decide +kernel
theorem aM_87 : 87 ∈ yM.1 ∧ yM.2.1 87 = (3, 3) := by decide +kernel
theorem aM_88 : 88 ∈ yM.1 ∧ yM.2.1 88 = (3, 4) := by decide +kernel
theorem aM_89 : 89 ∈ yM.1 ∧ yM.2.1 89 = (3, 5) := by decide +kernel
theorem aM_90 : 90 ∈ yM.1 ∧ yM.2.1 90 = (3, 4) := by decide +kernel
theorem aM_91 : 91 ∈ yM.1 ∧ yM.2.1 91 = (3, 4) := by decide +kernel
theorem aM_92 : 92 ∈ yM.1 ∧ yM.2.1 92 = (3, 5) := by decide +kernel
theorem aM_93 : 93 ∈ yM.1 ∧ yM.2.1 93 = (3, 5) := by decide +kernel
theorem aM_94 : 94 ∈ yM.1 ∧ yM.2.1 94 = (3, 6) := by decide +kernel
theorem aM_95 : 95 ∈ yM.1 ∧ yM.2.1 95 = (3, 6) := by decide +kernel
theorem aM_96 : 96 ∈ yM.1 ∧ yM.2.1 96 = (3, 5) := by decide +kernel
theorem aM_97 : 97 ∈ yM.1 ∧ yM.2.1 97 = (3, 5) := by decide +kernel
theorem aM_98 : 98 ∈ yM.1 ∧ yM.2.1 98 = (3, 4) := by decide +kernel
theorem aM_99 : 99 ∈ yM.1 ∧ yM.2.1 99 = (3, 4) := by decide +kernel
theorem aM_100 : 100 ∈ yM.1 ∧ yM.2.1 100 = (4, 1700) := by decide +kernel
theorem aM_102 : 102 ∈ yM.1 ∧ yM.2.1 102 = (4, 1700) := by decide +kernel
theorem aM_106 : 106 ∈ yM.1 ∧ yM.2.1 106 = (5, 1700) := by decide +kernel
theorem aM_110 : 110 ∈ yM.1 ∧ yM.2.1 110 = (4, 48) := by decide +kernel
theorem cf12 : ho_F 12 RX12 TX12 tyX12 111 := ⟨rfl, ho_inOf [1467, 1469, 1471, 1473, 1475, 1477, 1479, 1481, 1483, 1485, 1487, 1489, 1491, 1493, 1495, 1497, 1499, 1501, 1503, 1505, 1507, 1509, 1511, 1513, 1515, 1517, 1519, 1521, 1523, 1525, 1527, 1529, 1531, 1533, 1535, 1537, 1539, 1541, 1543, 1545, 1547, 1549, 1551, 1553, 1555, 1557, 1559, 1561, 1563, 1565, 1567, 1569, 1571, 1573, 1575, 1577, 1579, 1581, 1583, 1585, 1587, 1589, 1591, 1593, 1595, 1597, 1599, 1601, 1603, 1605, 1607, 1609, 1611, 1613, 1615, 1617, 1619, 1621, 1623, 1625, 1627, 1629, 1631, 1633, 1635, 1637, 1639, 1641, 1643, 1645, 1647, 1649, 1651, 1653, 1655, 1657, 1659, 1661, 1663, 1665, 1667, 1669, 1671, 1673, 1675, 1677, 1679, 1681, 1683, 1685, 1687] (by decide +kernel), tyX12_ok, nmX12⟩
theorem fM_7 : ho_f yM RX12 12 TX12 111 7 0 2 (.array .int) true := ⟨rfl, by decide, gt_6 (i := 16) (by decide +kernel) rfl, rfl, rfl, by decide +kernel⟩
theorem fM_13 : ho_f yM RX12 12 TX12 111 13 8 0 .int false := ⟨rfl, by decide, gt_6 (i := 24) (by decide +kernel) rfl, rfl, rfl, by decide +kernel⟩
theorem fM_17 : ho_f yM RX12 12 TX12 111 17 9 2 (.array .int) true := ⟨rfl, by decide, gt_6 (i := 25) (by decide +kernel) rfl, rfl, rfl, by decide +kernel⟩
theorem fM_20 : ho_f yM RX12 12 TX12 111 20 10 2 (.array .char) true := ⟨rfl, by decide, gt_6 (i := 26) (by decide +kernel) rfl, rfl, rfl, by decide +kernel⟩
theorem fM_24 : ho_f yM RX12 12 TX12 111 24 11 2 (.array .char) true := ⟨rfl, by decide, gt_6 (i := 27) (by decide +kernel) rfl, rfl, rfl, by decide +kernel⟩
theorem fM_27 : ho_f yM RX12 12 TX12 111 27 12 2 (.array .char) true := ⟨rfl, by decide, gt_6 (i := 28) (by decide +kernel) rfl, rfl, rfl, by decide +kernel⟩
theorem fM_30 : ho_f yM RX12 12 TX12 111 30 13 2 (.array .char) true := ⟨rfl, by decide, gt_6 (i := 29) (by decide +kernel) rfl, rfl, rfl, by decide +kernel⟩
theorem fM_33 : ho_f yM RX12 12 TX12 111 33 14 2 (.array .char) true := ⟨rfl, by decide, gt_6 (i := 30) (by decide +kernel) rfl, rfl, rfl, by decide +kernel⟩
theorem fM_36 : ho_f yM RX12 12 TX12 111 36 15 2 (.array .char) true := ⟨rfl, by decide, gt_6 (i := 31) (by decide +kernel) rfl, rfl, rfl, by decide +kernel⟩
theorem fM_39 : ho_f yM RX12 12 TX12 111 39 16 2 (.array .char) true := ⟨rfl, by decide, gt_6 (i := 32) (by decide +kernel) rfl, rfl, rfl, by decide +kernel⟩
theorem fM_42 : ho_f yM RX12 12 TX12 111 42 17 2 (.array .char) true := ⟨rfl, by decide, gt_6 (i := 33) (by decide +kernel) rfl, rfl, rfl, by decide +kernel⟩
theorem fM_45 : ho_f yM RX12 12 TX12 111 45 18 2 (.array .char) true := ⟨rfl, by decide, gt_6 (i := 34) (by decide +kernel) rfl, rfl, rfl, by decide +kernel⟩
theorem fM_48 : ho_f yM RX12 12 TX12 111 48 19 2 (.array .char) true := ⟨rfl, by decide, gt_6 (i := 35) (by decide +kernel) rfl, rfl, rfl, by decide +kernel⟩
theorem fM_51 : ho_f yM RX12 12 TX12 111 51 20 2 (.array .char) true := ⟨rfl, by decide, gt_6 (i := 36) (by decide +kernel) rfl, rfl, rfl, by decide +kernel⟩
theorem fM_54 : ho_f yM RX12 12 TX12 111 54 21 2 (.array .char) true := ⟨rfl, by decide, gt_6 (i := 37) (by decide +kernel) rfl, rfl, rfl, by decide +kernel⟩
theorem fM_57 : ho_f yM RX12 12 TX12 111 57 22 2 (.array .char) true := ⟨rfl, by decide, gt_6 (i := 38) (by decide +kernel) rfl, rfl, rfl, by decide +kernel⟩
theorem fM_60 : ho_f yM RX12 12 TX12 111 60 23 2 (.array .char) true := ⟨rfl, by decide, gt_6 (i := 39) (by decide +kernel) rfl, rfl, rfl, by decide +kernel⟩
theorem fM_63 : ho_f yM RX12 12 TX12 111 63 24 2 (.array .char) true := ⟨rfl, by decide, gt_6 (i := 40) (by decide +kernel) rfl, rfl, rfl, by decide +kernel⟩
theorem fM_66 : ho_f yM RX12 12 TX12 111 66 25 2 (.array .char) true := ⟨rfl, by decide, gt_6 (i := 41) (by decide +kernel) rfl, rfl, rfl, by decide +kernel⟩
theorem fM_69 : ho_f yM RX12 12 TX12 111 69 26 2 (.array .char) true := ⟨rfl, by decide, gt_6 (i := 42) (by decide +kernel) rfl, rfl, rfl, by decide +kernel⟩
theorem fM_72 : ho_f yM RX12 12 TX12 111 72 27 2 (.array .char) true := ⟨rfl, by decide, gt_6 (i := 43) (by decide +kernel) rfl, rfl, rfl, by decide +kernel⟩
theorem fM_75 : ho_f yM RX12 12 TX12 111 75 28 2 (.array .char) true := ⟨rfl, by decide, gt_6 (i := 44) (by decide +kernel) rfl, rfl, rfl, by decide +kernel⟩
theorem fM_78 : ho_f yM RX12 12 TX12 111 78 29 2 (.array .char) true := ⟨rfl, by decide, gt_6 (i := 45) (by decide +kernel) rfl, rfl, rfl, by decide +kernel⟩
theorem fM_81 : ho_f yM RX12 12 TX12 111 81 30 2 (.array .char) true := ⟨rfl, by decide, gt_6 (i := 46) (by decide +kernel) rfl, rfl, rfl, by decide +kernel⟩
theorem fM_84 : ho_f yM RX12 12 TX12 111 84 31 2 (.array .char) true := ⟨rfl, by decide, gt_6 (i := 47) (by decide +kernel) rfl, rfl, rfl, by decide +kernel⟩
theorem fM_87 : ho_f yM RX12 12 TX12 111 87 32 2 (.array .char) true := ⟨rfl, by decide, gt_6 (i := 48) (by decide +kernel) rfl, rfl, rfl, by decide +kernel⟩
theorem fM_90 : ho_f yM RX12 12 TX12 111 90 33 2 (.array .char) true := ⟨rfl, by decide, gt_6 (i := 49) (by decide +kernel) rfl, rfl, rfl, by decide +kernel⟩
theorem fM_93 : ho_f yM RX12 12 TX12 111 93 34 2 (.array .char) true := ⟨rfl, by decide, gt_6 (i := 50) (by decide +kernel) rfl, rfl, rfl, by decide +kernel⟩
theorem fM_96 : ho_f yM RX12 12 TX12 111 96 35 2 (.array .char) true := ⟨rfl, by decide, gt_6 (i := 51) (by decide +kernel) rfl, rfl, rfl, by decide +kernel⟩
theorem fM_99 : ho_f yM RX12 12 TX12 111 99 36 2 (.array .char) true := ⟨rfl, by decide, gt_6 (i := 52) (by decide +kernel) rfl, rfl, rfl, by decide +kernel⟩
theorem fM_102 : ho_f yM RX12 12 TX12 111 102 37 2 (.array .char) true := ⟨rfl, by decide, gt_6 (i := 53) (by decide +kernel) rfl, rfl, rfl, by decide +kernel⟩
theorem fM_105 : ho_f yM RX12 12 TX12 111 105 38 2 (.array .char) true := ⟨rfl, by decide, gt_6 (i := 54) (by decide +kernel) rfl, rfl, rfl, by decide +kernel⟩
theorem fM_108 : ho_f yM RX12 12 TX12 111 108 40 2 (.array .int) true := ⟨rfl, by decide, gt_6 (i := 56) (by decide +kernel) rfl, rfl, rfl, by decide +kernel⟩
theorem fM_111 : ho_f yM RX12 12 TX12 111 111 41 2 (.array .long) true := ⟨rfl, by decide, gt_6 (i := 57) (by decide +kernel) rfl, rfl, rfl, by decide +kernel⟩
theorem fM_115 : ho_f yM RX12 12 TX12 111 115 42 2 (.array .int) true := ⟨rfl, by decide, gt_6 (i := 58) (by decide +kernel) rfl, rfl, rfl, by decide +kernel⟩
theorem fM_118 : ho_f yM RX12 12 TX12 111 118 43 2 (.array .int) true := ⟨rfl, by decide, gt_6 (i := 59) (by decide +kernel) rfl, rfl, rfl, by decide +kernel⟩
theorem fM_121 : ho_f yM RX12 12 TX12 111 121 44 2 (.array .int) true := ⟨rfl, by decide, gt_6 (i := 60) (by decide +kernel) rfl, rfl, rfl, by decide +kernel⟩
theorem fM_124 : ho_f yM RX12 12 TX12 111 124 45 2 (.array .int) true := ⟨rfl, by decide, gt_6 (i := 61) (by decide +kernel) rfl, rfl, rfl, by decide +kernel⟩
theorem fM_127 : ho_f yM RX12 12 TX12 111 127 46 2 (.array .int) true := ⟨rfl, by decide, gt_6 (i := 62) (by decide +kernel) rfl, rfl, rfl, by decide +kernel⟩
theorem fM_130 : ho_f yM RX12 12 TX12 111 130 47 2 (.array .int) true := ⟨rfl, by decide, gt_6 (i := 63) (by decide +kernel) rfl, rfl, rfl, by decide +kernel⟩
theorem fM_133 : ho_f yM RX12 12 TX12 111 133 48 2 (.array .int) true := ⟨rfl, by decide, gt_6 (i := 64) (by decide +kernel) rfl, rfl, rfl, by decide +kernel⟩
theorem fM_136 : ho_f yM RX12 12 TX12 111 136 49 2 (.array .int) true := ⟨rfl, by decide, gt_6 (i := 65) (by decide +kernel) rfl, rfl, rfl, by decide +kernel⟩
theorem fM_139 : ho_f yM RX12 12 TX12 111 139 54 2 (.array .int) true := ⟨rfl, by decide, gt_6 (i := 70) (by decide +kernel) rfl, rfl, rfl, by decide +kernel⟩
theorem fM_142 : ho_f yM RX12 12 TX12 111 142 55 2 (.array .int) true := ⟨rfl, by decide, gt_6 (i := 71) (by decide +kernel) rfl, rfl, rfl, by decide +kernel⟩
theorem fM_145 : ho_f yM RX12 12 TX12 111 145 58 2 (.array .int) true := ⟨rfl, by decide, gt_6 (i := 74) (by decide +kernel) rfl, rfl, rfl, by decide +kernel⟩
theorem fM_148 : ho_f yM RX12 12 TX12 111 148 59 2 (.array .int) true := ⟨rfl, by decide, gt_6 (i := 75) (by decide +kernel) rfl, rfl, rfl, by decide +kernel⟩
theorem fM_151 : ho_f yM RX12 12 TX12 111 151 60 2 (.array .int) true := ⟨rfl, by decide, gt_6 (i := 76) (by decide +kernel) rfl, rfl, rfl, by decide +kernel⟩
theorem fM_154 : ho_f yM RX12 12 TX12 111 154 61 2 (.array .int) true := ⟨rfl, by decide, gt_6 (i := 77) (by decide +kernel) rfl, rfl, rfl, by decide +kernel⟩
theorem fM_157 : ho_f yM RX12 12 TX12 111 157 65 2 (.array .int) true := ⟨rfl, by decide, gt_6 (i := 81) (by decide +kernel) rfl, rfl, rfl, by decide +kernel⟩
theorem fM_160 : ho_f yM RX12 12 TX12 111 160 67 2 (.array .int) true := ⟨rfl, by decide, gt_6 (i := 83) (by decide +kernel) rfl, rfl, rfl, by decide +kernel⟩
theorem fM_163 : ho_f yM RX12 12 TX12 111 163 68 2 (.array .int) true := ⟨rfl, by decide, gt_6 (i := 84) (by decide +kernel) rfl, rfl, rfl, by decide +kernel⟩
theorem fM_166 : ho_f yM RX12 12 TX12 111 166 69 2 (.array .boolean) true := ⟨rfl, by decide, gt_6 (i := 85) (by decide +kernel) rfl, rfl, rfl, by decide +kernel⟩
theorem fM_170 : ho_f yM RX12 12 TX12 111 170 71 2 (.array .int) true := ⟨rfl, by decide, gt_6 (i := 87) (by decide +kernel) rfl, rfl, rfl, by decide +kernel⟩
theorem fM_173 : ho_f yM RX12 12 TX12 111 173 74 1 .long false := ⟨rfl, by decide, gt_6 (i := 90) (by decide +kernel) rfl, rfl, rfl, by decide +kernel⟩
theorem fM_177 : ho_f yM RX12 12 TX12 111 177 75 2 (.array .char) true := ⟨rfl, by decide, gt_6 (i := 91) (by decide +kernel) rfl, rfl, rfl, by decide +kernel⟩
theorem fM_180 : ho_f yM RX12 12 TX12 111 180 76 2 (.array .char) true := ⟨rfl, by decide, gt_6 (i := 92) (by decide +kernel) rfl, rfl, rfl, by decide +kernel⟩
theorem fM_183 : ho_f yM RX12 12 TX12 111 183 77 2 (.array .char) true := ⟨rfl, by decide, gt_6 (i := 93) (by decide +kernel) rfl, rfl, rfl, by decide +kernel⟩
theorem fM_186 : ho_f yM RX12 12 TX12 111 186 78 2 (.array .char) true := ⟨rfl, by decide, gt_6 (i := 94) (by decide +kernel) rfl, rfl, rfl, by decide +kernel⟩
theorem fM_189 : ho_f yM RX12 12 TX12 111 189 79 2 (.array .char) true := ⟨rfl, by decide, gt_6 (i := 95) (by decide +kernel) rfl, rfl, rfl, by decide +kernel⟩
theorem fM_192 : ho_f yM RX12 12 TX12 111 192 80 2 (.array .char) true := ⟨rfl, by decide, gt_6 (i := 96) (by decide +kernel) rfl, rfl, rfl, by decide +kernel⟩
theorem fM_195 : ho_f yM RX12 12 TX12 111 195 81 2 (.array .char) true := ⟨rfl, by decide, gt_6 (i := 97) (by decide +kernel) rfl, rfl, rfl, by decide +kernel⟩
theorem fM_198 : ho_f yM RX12 12 TX12 111 198 82 2 (.array .char) true := ⟨rfl, by decide, gt_6 (i := 98) (by decide +kernel) rfl, rfl, rfl, by decide +kernel⟩
theorem fM_201 : ho_f yM RX12 12 TX12 111 201 83 2 (.array .char) true := ⟨rfl, by decide, gt_6 (i := 99) (by decide +kernel) rfl, rfl, rfl, by decide +kernel⟩
theorem fM_204 : ho_f yM RX12 12 TX12 111 204 84 2 (.array .char) true := ⟨rfl, by decide, gt_6 (i := 100) (by decide +kernel) rfl, rfl, rfl, by decide +kernel⟩
theorem fM_207 : ho_f yM RX12 12 TX12 111 207 85 2 (.array .char) true := ⟨rfl, by decide, gt_6 (i := 101) (by decide +kernel) rfl, rfl, rfl, by decide +kernel⟩
theorem fM_210 : ho_f yM RX12 12 TX12 111 210 86 2 (.array .char) true := ⟨rfl, by decide, gt_6 (i := 102) (by decide +kernel) rfl, rfl, rfl, by decide +kernel⟩
theorem fM_213 : ho_f yM RX12 12 TX12 111 213 87 2 (.array .char) true := ⟨rfl, by decide, gt_6 (i := 103) (by decide +kernel) rfl, rfl, rfl, by decide +kernel⟩
theorem fM_216 : ho_f yM RX12 12 TX12 111 216 88 2 (.array .char) true := ⟨rfl, by decide, gt_6 (i := 104) (by decide +kernel) rfl, rfl, rfl, by decide +kernel⟩
theorem fM_219 : ho_f yM RX12 12 TX12 111 219 89 2 (.array .char) true := ⟨rfl, by decide, gt_6 (i := 105) (by decide +kernel) rfl, rfl, rfl, by decide +kernel⟩
theorem fM_222 : ho_f yM RX12 12 TX12 111 222 90 2 (.array .char) true := ⟨rfl, by decide, gt_6 (i := 106) (by decide +kernel) rfl, rfl, rfl, by decide +kernel⟩
theorem fM_225 : ho_f yM RX12 12 TX12 111 225 91 2 (.array .char) true := ⟨rfl, by decide, gt_6 (i := 107) (by decide +kernel) rfl, rfl, rfl, by decide +kernel⟩
theorem fM_228 : ho_f yM RX12 12 TX12 111 228 92 2 (.array .char) true := ⟨rfl, by decide, gt_6 (i := 108) (by decide +kernel) rfl, rfl, rfl, by decide +kernel⟩
theorem fM_231 : ho_f yM RX12 12 TX12 111 231 93 2 (.array .char) true := ⟨rfl, by decide, gt_6 (i := 109) (by decide +kernel) rfl, rfl, rfl, by decide +kernel⟩
theorem fM_234 : ho_f yM RX12 12 TX12 111 234 94 2 (.array .char) true := ⟨rfl, by decide, gt_6 (i := 110) (by decide +kernel) rfl, rfl, rfl, by decide +kernel⟩
theorem fM_237 : ho_f yM RX12 12 TX12 111 237 95 2 (.array .char) true := ⟨rfl, by decide, gt_6 (i := 111) (by decide +kernel) rfl, rfl, rfl, by decide +kernel⟩
theorem fM_240 : ho_f yM RX12 12 TX12 111 240 96 2 (.array .char) true := ⟨rfl, by decide, gt_6 (i := 112) (by decide +kernel) rfl, rfl, rfl, by decide +kernel⟩
theorem fM_243 : ho_f yM RX12 12 TX12 111 243 97 2 (.array .char) true := ⟨rfl, by decide, gt_6 (i := 113) (by decide +kernel) rfl, rfl, rfl, by decide +kernel⟩
theorem fM_246 : ho_f yM RX12 12 TX12 111 246 98 2 (.array .char) true := ⟨rfl, by decide, gt_6 (i := 114) (by decide +kernel) rfl, rfl, rfl, by decide +kernel⟩
theorem fM_249 : ho_f yM RX12 12 TX12 111 249 99 2 (.array .int) true := ⟨rfl, by decide, gt_6 (i := 115) (by decide +kernel) rfl, rfl, rfl, by decide +kernel⟩
theorem fM_252 : ho_f yM RX12 12 TX12 111 252 101 2 (.array .int) true := ⟨rfl, by decide, gt_6 (i := 117) (by decide +kernel) rfl, rfl, rfl, by decide +kernel⟩
theorem fM_255 : ho_f yM RX12 12 TX12 111 255 105 2 (.array .long) true := ⟨rfl, by decide, gt_6 (i := 121) (by decide +kernel) rfl, rfl, rfl, by decide +kernel⟩
theorem fM_258 : ho_f yM RX12 12 TX12 111 258 109 2 (.array .int) true := ⟨rfl, by decide, gt_6 (i := 125) (by decide +kernel) rfl, rfl, rfl, by decide +kernel⟩
theorem fM_261 : ho_f yM RX12 12 TX12 111 261 1 0 .int false := ⟨rfl, by decide, gt_6 (i := 17) (by decide +kernel) rfl, rfl, rfl, by decide +kernel⟩
theorem fM_264 : ho_f yM RX12 12 TX12 111 264 5 0 .int false := ⟨rfl, by decide, gt_6 (i := 21) (by decide +kernel) rfl, rfl, rfl, by decide +kernel⟩
theorem fM_267 : ho_f yM RX12 12 TX12 111 267 6 0 .int false := ⟨rfl, by decide, gt_6 (i := 22) (by decide +kernel) rfl, rfl, rfl, by decide +kernel⟩
theorem fM_270 : ho_f yM RX12 12 TX12 111 270 2 0 .int false := ⟨rfl, by decide, gt_6 (i := 18) (by decide +kernel) rfl, rfl, rfl, by decide +kernel⟩
theorem fM_273 : ho_f yM RX12 12 TX12 111 273 3 0 .int false := ⟨rfl, by decide, gt_6 (i := 19) (by decide +kernel) rfl, rfl, rfl, by decide +kernel⟩
theorem fM_284 : ho_f yM RX12 12 TX12 111 284 4 0 .int false := ⟨rfl, by decide, gt_6 (i := 20) (by decide +kernel) rfl, rfl, rfl, by decide +kernel⟩
theorem fM_312 : ho_f yM RX12 12 TX12 111 312 39 0 .int false := ⟨rfl, by decide, gt_6 (i := 55) (by decide +kernel) rfl, rfl, rfl, by decide +kernel⟩
theorem fM_319 : ho_f yM RX12 12 TX12 111 319 53 0 .int false := ⟨rfl, by decide, gt_6 (i := 69) (by decide +kernel) rfl, rfl, rfl, by decide +kernel⟩
theorem fM_352 : ho_f yM RX12 12 TX12 111 352 100 0 .int false := ⟨rfl, by decide, gt_6 (i := 116) (by decide +kernel) rfl, rfl, rfl, by decide +kernel⟩
theorem fM_355 : ho_f yM RX12 12 TX12 111 355 102 0 .int false := ⟨rfl, by decide, gt_6 (i := 118) (by decide +kernel) rfl, rfl, rfl, by decide +kernel⟩
theorem fM_358 : ho_f yM RX12 12 TX12 111 358 103 0 .int false := ⟨rfl, by decide, gt_6 (i := 119) (by decide +kernel) rfl, rfl, rfl, by decide +kernel⟩
theorem fM_361 : ho_f yM RX12 12 TX12 111 361 104 0 .int false := ⟨rfl, by decide, gt_6 (i := 120) (by decide +kernel) rfl, rfl, rfl, by decide +kernel⟩
theorem fM_367 : ho_f yM RX12 12 TX12 111 367 50 0 .int false := ⟨rfl, by decide, gt_6 (i := 66) (by decide +kernel) rfl, rfl, rfl, by decide +kernel⟩
theorem fM_370 : ho_f yM RX12 12 TX12 111 370 51 0 .int false := ⟨rfl, by decide, gt_6 (i := 67) (by decide +kernel) rfl, rfl, rfl, by decide +kernel⟩
theorem fM_391 : ho_f yM RX12 12 TX12 111 391 7 0 .int false := ⟨rfl, by decide, gt_6 (i := 23) (by decide +kernel) rfl, rfl, rfl, by decide +kernel⟩
theorem fM_397 : ho_f yM RX12 12 TX12 111 397 52 0 .boolean false := ⟨rfl, by decide, gt_6 (i := 68) (by decide +kernel) rfl, rfl, rfl, by decide +kernel⟩
theorem fM_401 : ho_f yM RX12 12 TX12 111 401 72 0 .int false := ⟨rfl, by decide, gt_6 (i := 88) (by decide +kernel) rfl, rfl, rfl, by decide +kernel⟩
theorem fM_404 : ho_f yM RX12 12 TX12 111 404 66 0 .int false := ⟨rfl, by decide, gt_6 (i := 82) (by decide +kernel) rfl, rfl, rfl, by decide +kernel⟩
theorem fM_416 : ho_f yM RX12 12 TX12 111 416 106 0 .int false := ⟨rfl, by decide, gt_6 (i := 122) (by decide +kernel) rfl, rfl, rfl, by decide +kernel⟩
theorem fM_430 : ho_f yM RX12 12 TX12 111 430 56 0 .int false := ⟨rfl, by decide, gt_6 (i := 72) (by decide +kernel) rfl, rfl, rfl, by decide +kernel⟩
theorem fM_433 : ho_f yM RX12 12 TX12 111 433 57 0 .int false := ⟨rfl, by decide, gt_6 (i := 73) (by decide +kernel) rfl, rfl, rfl, by decide +kernel⟩
theorem fM_483 : ho_f yM RX12 12 TX12 111 483 62 0 .boolean false := ⟨rfl, by decide, gt_6 (i := 78) (by decide +kernel) rfl, rfl, rfl, by decide +kernel⟩
theorem fM_491 : ho_f yM RX12 12 TX12 111 491 64 0 .int false := ⟨rfl, by decide, gt_6 (i := 80) (by decide +kernel) rfl, rfl, rfl, by decide +kernel⟩
theorem fM_497 : ho_f yM RX12 12 TX12 111 497 63 0 .int false := ⟨rfl, by decide, gt_6 (i := 79) (by decide +kernel) rfl, rfl, rfl, by decide +kernel⟩
theorem fM_568 : ho_f yM RX12 12 TX12 111 568 70 0 .int false := ⟨rfl, by decide, gt_6 (i := 86) (by decide +kernel) rfl, rfl, rfl, by decide +kernel⟩
theorem fM_583 : ho_f yM RX12 12 TX12 111 583 73 0 .int false := ⟨rfl, by decide, gt_6 (i := 89) (by decide +kernel) rfl, rfl, rfl, by decide +kernel⟩
theorem fM_677 : ho_f yM RX12 12 TX12 111 677 107 1 .long false := ⟨rfl, by decide, gt_6 (i := 123) (by decide +kernel) rfl, rfl, rfl, by decide +kernel⟩
theorem fM_682 : ho_f yM RX12 12 TX12 111 682 108 0 .boolean false := ⟨rfl, by decide, gt_6 (i := 124) (by decide +kernel) rfl, rfl, rfl, by decide +kernel⟩
theorem fM_701 : ho_f yM RX12 12 TX12 111 701 110 0 .int false := ⟨rfl, by decide, gt_6 (i := 126) (by decide +kernel) rfl, rfl, rfl, by decide +kernel⟩
theorem kc_RX12_315 : Cond.constantLong RX12 315 (27) ∈ gw := gt_7 (i := 194) (by decide +kernel) rfl
theorem kc_RX12_317 : Cond.constantLong RX12 317 (97) ∈ gw := gt_7 (i := 195) (by decide +kernel) rfl
theorem kc_RX12_439 : Cond.constantLong RX12 439 (99) ∈ gw := gt_8 (i := 136) (by decide +kernel) rfl
theorem kc_RX12_486 : Cond.constantLong RX12 486 (10) ∈ gw := gt_8 (i := 238) (by decide +kernel) rfl
theorem kc_RX12_500 : Cond.constantLong RX12 500 (100) ∈ gw := gt_9 (i := 7) (by decide +kernel) rfl
theorem kc_RX12_502 : Cond.constantLong RX12 502 (99999) ∈ gw := gt_9 (i := 8) (by decide +kernel) rfl
theorem kc_RX12_504 : Cond.constant RX12 504 (99999) ∈ gw := gt_9 (i := 9) (by decide +kernel) rfl
theorem kc_RX12_526 : Cond.constantLong RX12 526 (2) ∈ gw := gt_8 (i := 74) (by decide +kernel) rfl
theorem kc_RX12_528 : Cond.constantLong RX12 528 (5) ∈ gw := gt_8 (i := 75) (by decide +kernel) rfl
theorem kc_RX12_554 : Cond.constantLong RX12 554 (3) ∈ gw := gt_8 (i := 213) (by decide +kernel) rfl
theorem kc_RX12_589 : Cond.constantLong RX12 589 (9) ∈ gw := gt_9 (i := 86) (by decide +kernel) rfl
theorem kc_RX12_594 : Cond.constantLong RX12 594 (9999) ∈ gw := gt_9 (i := 95) (by decide +kernel) rfl
theorem kc_RX12_596 : Cond.constantLong RX12 596 (1103515245) ∈ gw := gt_9 (i := 112) (by decide +kernel) rfl
theorem kc_RX12_598 : Cond.constantLong RX12 598 (12345) ∈ gw := gt_9 (i := 113) (by decide +kernel) rfl
theorem kc_RX12_600 : Cond.constantLong RX12 600 (2147483648) ∈ gw := gt_9 (i := 114) (by decide +kernel) rfl
theorem kc_RX12_602 : Cond.constantLong RX12 602 (64) ∈ gw := gt_9 (i := 115) (by decide +kernel) rfl
theorem kc_RX12_661 : Cond.constantLong RX12 661 (1000000) ∈ gw := gt_8 (i := 131) (by decide +kernel) rfl
theorem kc_RX12_663 : Cond.constantLong RX12 663 (-1000000) ∈ gw := gt_8 (i := 132) (by decide +kernel) rfl
theorem kc_RX12_680 : Cond.constantLong RX12 680 (-1) ∈ gw := gt_9 (i := 145) (by decide +kernel) rfl
theorem kc_RX12_685 : Cond.constantLong RX12 685 (-1000000000000000) ∈ gw := gt_9 (i := 120) (by decide +kernel) rfl
theorem kc_RX12_710 : Cond.constant RX12 710 (65536) ∈ gw := gt_9 (i := 170) (by decide +kernel) rfl
theorem yv_X12_look0 : ho_yV yX12_look0 cX12_look0 1 (some .int) 0 := ⟨⟨gt_7 (i := 144) rfl rfl, gt_1 (i := 17) (by decide +kernel) rfl, by decide +kernel⟩, gt_7 (i := 143) (by decide +kernel) rfl, gw_of (i := 49) (by decide +kernel) rfl⟩
theorem ys_X12_isLetter : ho_yS yX12_isLetter cX12_isLetter 1 (some .boolean) 1 := ⟨⟨gt_7 (i := 147) rfl rfl, gt_1 (i := 17) (by decide +kernel) rfl, by decide +kernel⟩, gt_7 (i := 146) (by decide +kernel) rfl⟩
theorem yv_X12_isHere : ho_yV yX12_isHere cX12_isHere 4 (some .boolean) 1 := ⟨⟨gt_7 (i := 140) rfl rfl, gt_1 (i := 17) (by decide +kernel) rfl, by decide +kernel⟩, gt_7 (i := 139) (by decide +kernel) rfl, gw_of (i := 48) (by decide +kernel) rfl⟩
theorem yv_X12_takes : ho_yV yX12_takes cX12_takes 2 (some .boolean) 1 := ⟨⟨gt_7 (i := 136) rfl rfl, gt_1 (i := 17) (by decide +kernel) rfl, by decide +kernel⟩, gt_7 (i := 135) (by decide +kernel) rfl, gw_of (i := 47) (by decide +kernel) rfl⟩
theorem yv_X12_fail : ho_yV yX12_fail cX12_fail 3 none 2 := ⟨⟨gt_7 (i := 151) rfl rfl, gt_1 (i := 17) (by decide +kernel) rfl, by decide +kernel⟩, gt_7 (i := 150) (by decide +kernel) rfl, gw_of (i := 50) (by decide +kernel) rfl⟩
theorem yv_X12_takesSign : ho_yV yX12_takesSign cX12_takesSign 2 (some .boolean) 1 := ⟨⟨gt_7 (i := 169) rfl rfl, gt_1 (i := 17) (by decide +kernel) rfl, by decide +kernel⟩, gt_7 (i := 168) (by decide +kernel) rfl, gw_of (i := 53) (by decide +kernel) rfl⟩
theorem ys_X12_isDigit : ho_yS yX12_isDigit cX12_isDigit 1 (some .boolean) 1 := ⟨⟨gt_7 (i := 158) rfl rfl, gt_1 (i := 17) (by decide +kernel) rfl, by decide +kernel⟩, gt_7 (i := 157) (by decide +kernel) rfl⟩
theorem ys_X12_isIn : ho_yS yX12_isIn cX12_isIn 6 (some .boolean) 3 := ⟨⟨gt_7 (i := 161) rfl rfl, gt_1 (i := 17) (by decide +kernel) rfl, by decide +kernel⟩, gt_7 (i := 160) (by decide +kernel) rfl⟩
theorem yv_X12_isOwnHere : ho_yV yX12_isOwnHere cX12_isOwnHere 2 (some .boolean) 0 := ⟨⟨gt_7 (i := 193) rfl rfl, gt_1 (i := 17) (by decide +kernel) rfl, by decide +kernel⟩, gt_7 (i := 192) (by decide +kernel) rfl, gw_of (i := 59) (by decide +kernel) rfl⟩
theorem yv_X12_name : ho_yV yX12_name cX12_name 3 (some .long) 0 := ⟨⟨gt_7 (i := 189) rfl rfl, gt_1 (i := 17) (by decide +kernel) rfl, by decide +kernel⟩, gt_7 (i := 188) (by decide +kernel) rfl, gw_of (i := 58) (by decide +kernel) rfl⟩
theorem yv_X12_nameOf : ho_yV yX12_nameOf cX12_nameOf 5 (some .int) 2 := ⟨⟨gt_7 (i := 199) rfl rfl, gt_1 (i := 17) (by decide +kernel) rfl, by decide +kernel⟩, gt_7 (i := 198) (by decide +kernel) rfl, gw_of (i := 60) (by decide +kernel) rfl⟩
theorem yv_X12_asks : ho_yV yX12_asks cX12_asks 2 none 1 := ⟨⟨gt_7 (i := 132) rfl rfl, gt_1 (i := 17) (by decide +kernel) rfl, by decide +kernel⟩, gt_7 (i := 131) (by decide +kernel) rfl, gw_of (i := 46) (by decide +kernel) rfl⟩
theorem yv_X12_number : ho_yV yX12_number cX12_number 5 (some .int) 2 := ⟨⟨gt_7 (i := 155) rfl rfl, gt_1 (i := 17) (by decide +kernel) rfl, by decide +kernel⟩, gt_7 (i := 154) (by decide +kernel) rfl, gw_of (i := 51) (by decide +kernel) rfl⟩
theorem yv_X12_asksSign : ho_yV yX12_asksSign cX12_asksSign 2 none 1 := ⟨⟨gt_7 (i := 165) rfl rfl, gt_1 (i := 17) (by decide +kernel) rfl, by decide +kernel⟩, gt_7 (i := 164) (by decide +kernel) rfl, gw_of (i := 52) (by decide +kernel) rfl⟩
theorem yv_X12_isFull : ho_yV yX12_isFull cX12_isFull 4 (some .boolean) 3 := ⟨⟨gt_7 (i := 181) rfl rfl, gt_1 (i := 17) (by decide +kernel) rfl, by decide +kernel⟩, gt_7 (i := 180) (by decide +kernel) rfl, gw_of (i := 56) (by decide +kernel) rfl⟩
theorem yv_X12_newName : ho_yV yX12_newName cX12_newName 4 (some .long) 0 := ⟨⟨gt_7 (i := 185) rfl rfl, gt_1 (i := 17) (by decide +kernel) rfl, by decide +kernel⟩, gt_7 (i := 184) (by decide +kernel) rfl, gw_of (i := 57) (by decide +kernel) rfl⟩
theorem yv_X12_adds : ho_yV yX12_adds cX12_adds 4 (some .int) 2 := ⟨⟨gt_7 (i := 203) rfl rfl, gt_1 (i := 17) (by decide +kernel) rfl, by decide +kernel⟩, gt_7 (i := 202) (by decide +kernel) rfl, gw_of (i := 61) (by decide +kernel) rfl⟩
theorem yv_X12_qWordHere : ho_yV yX12_qWordHere cX12_qWordHere 1 (some .int) 0 := ⟨⟨gt_7 (i := 231) rfl rfl, gt_1 (i := 17) (by decide +kernel) rfl, by decide +kernel⟩, gt_7 (i := 230) (by decide +kernel) rfl, gw_of (i := 68) (by decide +kernel) rfl⟩
theorem yv_X12_isAllowed : ho_yV yX12_isAllowed cX12_isAllowed 2 (some .boolean) 1 := ⟨⟨gt_7 (i := 235) rfl rfl, gt_1 (i := 17) (by decide +kernel) rfl, by decide +kernel⟩, gt_7 (i := 234) (by decide +kernel) rfl, gw_of (i := 69) (by decide +kernel) rfl⟩
theorem yv_X12_qCode : ho_yV yX12_qCode cX12_qCode 2 none 1 := ⟨⟨gt_8 (i := 7) rfl rfl, gt_1 (i := 17) (by decide +kernel) rfl, by decide +kernel⟩, gt_8 (i := 6) (by decide +kernel) rfl, gw_of (i := 72) (by decide +kernel) rfl⟩
theorem yv_X12_qDrops : ho_yV yX12_qDrops cX12_qDrops 1 none 0 := ⟨⟨gt_8 (i := 15) rfl rfl, gt_1 (i := 17) (by decide +kernel) rfl, by decide +kernel⟩, gt_8 (i := 14) (by decide +kernel) rfl, gw_of (i := 74) (by decide +kernel) rfl⟩
theorem yv_X12_qWordOf : ho_yV yX12_qWordOf cX12_qWordOf 4 (some .int) 2 := ⟨⟨gt_7 (i := 227) rfl rfl, gt_1 (i := 17) (by decide +kernel) rfl, by decide +kernel⟩, gt_7 (i := 226) (by decide +kernel) rfl, gw_of (i := 67) (by decide +kernel) rfl⟩
theorem yv_X12_qEndsPart : ho_yV yX12_qEndsPart cX12_qEndsPart 1 none 0 := ⟨⟨gt_8 (i := 11) rfl rfl, gt_1 (i := 17) (by decide +kernel) rfl, by decide +kernel⟩, gt_8 (i := 10) (by decide +kernel) rfl, gw_of (i := 73) (by decide +kernel) rfl⟩
theorem yv_X12_qAsksWord : ho_yV yX12_qAsksWord cX12_qAsksWord 2 none 1 := ⟨⟨gt_8 (i := 3) rfl rfl, gt_1 (i := 17) (by decide +kernel) rfl, by decide +kernel⟩, gt_8 (i := 2) (by decide +kernel) rfl, gw_of (i := 71) (by decide +kernel) rfl⟩
theorem yv_X12_qOpens : ho_yV yX12_qOpens cX12_qOpens 3 none 2 := ⟨⟨gt_7 (i := 239) rfl rfl, gt_1 (i := 17) (by decide +kernel) rfl, by decide +kernel⟩, gt_7 (i := 238) (by decide +kernel) rfl, gw_of (i := 70) (by decide +kernel) rfl⟩
theorem ys_X12_qIsBracket : ho_yS yX12_qIsBracket cX12_qIsBracket 1 (some .boolean) 1 := ⟨⟨gt_8 (i := 26) rfl rfl, gt_1 (i := 17) (by decide +kernel) rfl, by decide +kernel⟩, gt_8 (i := 25) (by decide +kernel) rfl⟩
theorem yv_X12_qIsOn : ho_yV yX12_qIsOn cX12_qIsOn 2 (some .boolean) 1 := ⟨⟨gt_8 (i := 34) rfl rfl, gt_1 (i := 17) (by decide +kernel) rfl, by decide +kernel⟩, gt_8 (i := 33) (by decide +kernel) rfl, gw_of (i := 78) (by decide +kernel) rfl⟩
theorem yv_X12_qBracket : ho_yV yX12_qBracket cX12_qBracket 2 (some .int) 0 := ⟨⟨gt_8 (i := 23) rfl rfl, gt_1 (i := 17) (by decide +kernel) rfl, by decide +kernel⟩, gt_8 (i := 22) (by decide +kernel) rfl, gw_of (i := 76) (by decide +kernel) rfl⟩
theorem yv_X12_qDropsToBracket : ho_yV yX12_qDropsToBracket cX12_qDropsToBracket 1 none 0 := ⟨⟨gt_8 (i := 30) rfl rfl, gt_1 (i := 17) (by decide +kernel) rfl, by decide +kernel⟩, gt_8 (i := 29) (by decide +kernel) rfl, gw_of (i := 77) (by decide +kernel) rfl⟩
theorem yv_X12_qPartTold : ho_yV yX12_qPartTold cX12_qPartTold 6 none 0 := ⟨⟨gt_7 (i := 223) rfl rfl, gt_1 (i := 17) (by decide +kernel) rfl, by decide +kernel⟩, gt_7 (i := 222) (by decide +kernel) rfl, gw_of (i := 66) (by decide +kernel) rfl⟩
theorem yv_X12_qGoesOn : ho_yV yX12_qGoesOn cX12_qGoesOn 2 (some .boolean) 0 := ⟨⟨gt_8 (i := 19) rfl rfl, gt_1 (i := 17) (by decide +kernel) rfl, by decide +kernel⟩, gt_8 (i := 18) (by decide +kernel) rfl, gw_of (i := 75) (by decide +kernel) rfl⟩
theorem yv_X12_qSums : ho_yV yX12_qSums cX12_qSums 3 none 0 := ⟨⟨gt_7 (i := 219) rfl rfl, gt_1 (i := 17) (by decide +kernel) rfl, by decide +kernel⟩, gt_7 (i := 218) (by decide +kernel) rfl, gw_of (i := 65) (by decide +kernel) rfl⟩
theorem yv_X12_codesTold : ho_yV yX12_codesTold cX12_codesTold 4 none 2 := ⟨⟨gt_7 (i := 215) rfl rfl, gt_1 (i := 17) (by decide +kernel) rfl, by decide +kernel⟩, gt_7 (i := 214) (by decide +kernel) rfl, gw_of (i := 64) (by decide +kernel) rfl⟩
theorem yv_X12_watcherTold : ho_yV yX12_watcherTold cX12_watcherTold 7 none 1 := ⟨⟨gt_7 (i := 211) rfl rfl, gt_1 (i := 17) (by decide +kernel) rfl, by decide +kernel⟩, gt_7 (i := 210) (by decide +kernel) rfl, gw_of (i := 63) (by decide +kernel) rfl⟩
theorem yv_X12_trickTold : ho_yV yX12_trickTold cX12_trickTold 10 none 1 := ⟨⟨gt_7 (i := 207) rfl rfl, gt_1 (i := 17) (by decide +kernel) rfl, by decide +kernel⟩, gt_7 (i := 206) (by decide +kernel) rfl, gw_of (i := 62) (by decide +kernel) rfl⟩
theorem yv_X12_provinceTold : ho_yV yX12_provinceTold cX12_provinceTold 7 none 1 := ⟨⟨gt_7 (i := 177) rfl rfl, gt_1 (i := 17) (by decide +kernel) rfl, by decide +kernel⟩, gt_7 (i := 176) (by decide +kernel) rfl, gw_of (i := 55) (by decide +kernel) rfl⟩
theorem yv_X12_chestTold : ho_yV yX12_chestTold cX12_chestTold 1 none 0 := ⟨⟨gt_7 (i := 128) rfl rfl, gt_1 (i := 17) (by decide +kernel) rfl, by decide +kernel⟩, gt_7 (i := 127) (by decide +kernel) rfl, gw_of (i := 45) (by decide +kernel) rfl⟩
theorem yv_X12_stands : ho_yV yX12_stands cX12_stands 2 none 0 := ⟨⟨gt_8 (i := 38) rfl rfl, gt_1 (i := 17) (by decide +kernel) rfl, by decide +kernel⟩, gt_8 (i := 37) (by decide +kernel) rfl, gw_of (i := 79) (by decide +kernel) rfl⟩
theorem yv_X12_statementTold : ho_yV yX12_statementTold cX12_statementTold 2 none 0 := ⟨⟨gt_7 (i := 173) rfl rfl, gt_1 (i := 17) (by decide +kernel) rfl, by decide +kernel⟩, gt_7 (i := 172) (by decide +kernel) rfl, gw_of (i := 54) (by decide +kernel) rfl⟩
theorem yv_X12_provinceMany : ho_yV yX12_provinceMany cX12_provinceMany 1 (some .int) 0 := ⟨⟨gt_8 (i := 69) rfl rfl, gt_1 (i := 17) (by decide +kernel) rfl, by decide +kernel⟩, gt_8 (i := 68) (by decide +kernel) rfl, gw_of (i := 84) (by decide +kernel) rfl⟩
theorem yv_X12_trickMany : ho_yV yX12_trickMany cX12_trickMany 1 (some .int) 0 := ⟨⟨gt_8 (i := 54) rfl rfl, gt_1 (i := 17) (by decide +kernel) rfl, by decide +kernel⟩, gt_8 (i := 53) (by decide +kernel) rfl, gw_of (i := 81) (by decide +kernel) rfl⟩
theorem yv_X12_watcherMany : ho_yV yX12_watcherMany cX12_watcherMany 1 (some .int) 0 := ⟨⟨gt_8 (i := 103) rfl rfl, gt_1 (i := 17) (by decide +kernel) rfl, by decide +kernel⟩, gt_8 (i := 102) (by decide +kernel) rfl, gw_of (i := 89) (by decide +kernel) rfl⟩
theorem yv_X12_timesOf : ho_yV yX12_timesOf cX12_timesOf 2 (some .int) 1 := ⟨⟨gt_8 (i := 95) rfl rfl, gt_1 (i := 17) (by decide +kernel) rfl, by decide +kernel⟩, gt_8 (i := 94) (by decide +kernel) rfl, gw_of (i := 87) (by decide +kernel) rfl⟩
theorem yv_X12_knownOf : ho_yV yX12_knownOf cX12_knownOf 2 (some .int) 1 := ⟨⟨gt_8 (i := 58) rfl rfl, gt_1 (i := 17) (by decide +kernel) rfl, by decide +kernel⟩, gt_8 (i := 57) (by decide +kernel) rfl, gw_of (i := 82) (by decide +kernel) rfl⟩
theorem ys_X12_qClip : ho_yS yX12_qClip cX12_qClip 2 (some .long) 1 := ⟨⟨gt_8 (i := 130) rfl rfl, gt_1 (i := 17) (by decide +kernel) rfl, by decide +kernel⟩, gt_8 (i := 129) (by decide +kernel) rfl⟩
theorem yv_X12_qPuts : ho_yV yX12_qPuts cX12_qPuts 3 none 1 := ⟨⟨gt_8 (i := 119) rfl rfl, gt_1 (i := 17) (by decide +kernel) rfl, by decide +kernel⟩, gt_8 (i := 118) (by decide +kernel) rfl, gw_of (i := 93) (by decide +kernel) rfl⟩
theorem ys_X12_qFloor : ho_yS yX12_qFloor cX12_qFloor 6 (some .long) 2 := ⟨⟨gt_8 (i := 135) rfl rfl, gt_1 (i := 17) (by decide +kernel) rfl, by decide +kernel⟩, gt_8 (i := 134) (by decide +kernel) rfl⟩
theorem yv_X12_qJoins : ho_yV yX12_qJoins cX12_qJoins 6 none 1 := ⟨⟨gt_8 (i := 127) rfl rfl, gt_1 (i := 17) (by decide +kernel) rfl, by decide +kernel⟩, gt_8 (i := 126) (by decide +kernel) rfl, gw_of (i := 95) (by decide +kernel) rfl⟩
theorem yv_X12_qPartOf : ho_yV yX12_qPartOf cX12_qPartOf 3 (some .long) 2 := ⟨⟨gt_8 (i := 123) rfl rfl, gt_1 (i := 17) (by decide +kernel) rfl, by decide +kernel⟩, gt_8 (i := 122) (by decide +kernel) rfl, gw_of (i := 94) (by decide +kernel) rfl⟩
theorem yv_X12_codesTell : ho_yV yX12_codesTell cX12_codesTell 5 (some .long) 2 := ⟨⟨gt_8 (i := 115) rfl rfl, gt_1 (i := 17) (by decide +kernel) rfl, by decide +kernel⟩, gt_8 (i := 114) (by decide +kernel) rfl, gw_of (i := 92) (by decide +kernel) rfl⟩
theorem yv_X12_seatOf : ho_yV yX12_seatOf cX12_seatOf 2 (some .int) 1 := ⟨⟨gt_8 (i := 107) rfl rfl, gt_1 (i := 17) (by decide +kernel) rfl, by decide +kernel⟩, gt_8 (i := 106) (by decide +kernel) rfl, gw_of (i := 90) (by decide +kernel) rfl⟩
theorem yv_X12_sightBy : ho_yV yX12_sightBy cX12_sightBy 7 (some .int) 3 := ⟨⟨gt_8 (i := 111) rfl rfl, gt_1 (i := 17) (by decide +kernel) rfl, by decide +kernel⟩, gt_8 (i := 110) (by decide +kernel) rfl, gw_of (i := 91) (by decide +kernel) rfl⟩
theorem yv_X12_allTricks : ho_yV yX12_allTricks cX12_allTricks 1 (some .int) 0 := ⟨⟨gt_8 (i := 180) rfl rfl, gt_1 (i := 17) (by decide +kernel) rfl, by decide +kernel⟩, gt_8 (i := 179) (by decide +kernel) rfl, gw_of (i := 102) (by decide +kernel) rfl⟩
theorem yv_X12_throughSet : ho_yV yX12_throughSet cX12_throughSet 3 (some .int) 0 := ⟨⟨gt_8 (i := 50) rfl rfl, gt_1 (i := 17) (by decide +kernel) rfl, by decide +kernel⟩, gt_8 (i := 49) (by decide +kernel) rfl, gw_of (i := 80) (by decide +kernel) rfl⟩
theorem yv_X12_yieldsCome : ho_yV yX12_yieldsCome cX12_yieldsCome 3 none 0 := ⟨⟨gt_8 (i := 168) rfl rfl, gt_1 (i := 17) (by decide +kernel) rfl, by decide +kernel⟩, gt_8 (i := 167) (by decide +kernel) rfl, gw_of (i := 99) (by decide +kernel) rfl⟩
theorem yv_X12_sightOf : ho_yV yX12_sightOf cX12_sightOf 4 (some .int) 1 := ⟨⟨gt_8 (i := 99) rfl rfl, gt_1 (i := 17) (by decide +kernel) rfl, by decide +kernel⟩, gt_8 (i := 98) (by decide +kernel) rfl, gw_of (i := 88) (by decide +kernel) rfl⟩
theorem yv_X12_appearsBy : ho_yV yX12_appearsBy cX12_appearsBy 6 (some .int) 1 := ⟨⟨gt_8 (i := 192) rfl rfl, gt_1 (i := 17) (by decide +kernel) rfl, by decide +kernel⟩, gt_8 (i := 191) (by decide +kernel) rfl, gw_of (i := 105) (by decide +kernel) rfl⟩
theorem yv_X12_sightBySet : ho_yV yX12_sightBySet cX12_sightBySet 4 (some .int) 1 := ⟨⟨gt_8 (i := 196) rfl rfl, gt_1 (i := 17) (by decide +kernel) rfl, by decide +kernel⟩, gt_8 (i := 195) (by decide +kernel) rfl, gw_of (i := 106) (by decide +kernel) rfl⟩
theorem ys_X12_bits : ho_yS yX12_bits cX12_bits 3 (some .int) 1 := ⟨⟨gt_8 (i := 61) rfl rfl, gt_1 (i := 17) (by decide +kernel) rfl, by decide +kernel⟩, gt_8 (i := 60) (by decide +kernel) rfl⟩
theorem yv_X12_laysSights : ho_yV yX12_laysSights cX12_laysSights 2 none 0 := ⟨⟨gt_8 (i := 176) rfl rfl, gt_1 (i := 17) (by decide +kernel) rfl, by decide +kernel⟩, gt_8 (i := 175) (by decide +kernel) rfl, gw_of (i := 101) (by decide +kernel) rfl⟩
theorem yv_X12_canShow : ho_yV yX12_canShow cX12_canShow 2 (some .boolean) 1 := ⟨⟨gt_8 (i := 184) rfl rfl, gt_1 (i := 17) (by decide +kernel) rfl, by decide +kernel⟩, gt_8 (i := 183) (by decide +kernel) rfl, gw_of (i := 103) (by decide +kernel) rfl⟩
theorem yv_X12_isBetter : ho_yV yX12_isBetter cX12_isBetter 7 (some .boolean) 2 := ⟨⟨gt_8 (i := 188) rfl rfl, gt_1 (i := 17) (by decide +kernel) rfl, by decide +kernel⟩, gt_8 (i := 187) (by decide +kernel) rfl, gw_of (i := 104) (by decide +kernel) rfl⟩
theorem yv_X12_isKept : ho_yV yX12_isKept cX12_isKept 3 none 1 := ⟨⟨gt_9 (i := 2) rfl rfl, gt_1 (i := 17) (by decide +kernel) rfl, by decide +kernel⟩, gt_9 (i := 1) (by decide +kernel) rfl, gw_of (i := 115) (by decide +kernel) rfl⟩
theorem yv_X12_isSeenThrough : ho_yV yX12_isSeenThrough cX12_isSeenThrough 4 none 1 := ⟨⟨gt_8 (i := 237) rfl rfl, gt_1 (i := 17) (by decide +kernel) rfl, by decide +kernel⟩, gt_8 (i := 236) (by decide +kernel) rfl, gw_of (i := 114) (by decide +kernel) rfl⟩
theorem yv_X12_showGoes : ho_yV yX12_showGoes cX12_showGoes 4 none 1 := ⟨⟨gt_8 (i := 233) rfl rfl, gt_1 (i := 17) (by decide +kernel) rfl, by decide +kernel⟩, gt_8 (i := 232) (by decide +kernel) rfl, gw_of (i := 113) (by decide +kernel) rfl⟩
theorem yv_X12_debtGoes : ho_yV yX12_debtGoes cX12_debtGoes 4 none 0 := ⟨⟨gt_9 (i := 6) rfl rfl, gt_1 (i := 17) (by decide +kernel) rfl, by decide +kernel⟩, gt_9 (i := 5) (by decide +kernel) rfl, gw_of (i := 116) (by decide +kernel) rfl⟩
theorem yv_X12_bestShow : ho_yV yX12_bestShow cX12_bestShow 3 (some .int) 0 := ⟨⟨gt_8 (i := 172) rfl rfl, gt_1 (i := 17) (by decide +kernel) rfl, by decide +kernel⟩, gt_8 (i := 171) (by decide +kernel) rfl, gw_of (i := 100) (by decide +kernel) rfl⟩
theorem yv_X12_yearEnds : ho_yV yX12_yearEnds cX12_yearEnds 2 none 1 := ⟨⟨gt_8 (i := 229) rfl rfl, gt_1 (i := 17) (by decide +kernel) rfl, by decide +kernel⟩, gt_8 (i := 228) (by decide +kernel) rfl, gw_of (i := 112) (by decide +kernel) rfl⟩
theorem yv_X12_yearGoes : ho_yV yX12_yearGoes cX12_yearGoes 1 none 0 := ⟨⟨gt_8 (i := 225) rfl rfl, gt_1 (i := 17) (by decide +kernel) rfl, by decide +kernel⟩, gt_8 (i := 224) (by decide +kernel) rfl, gw_of (i := 111) (by decide +kernel) rfl⟩
theorem yv_X12_triesAnew : ho_yV yX12_triesAnew cX12_triesAnew 2 none 0 := ⟨⟨gt_9 (i := 17) rfl rfl, gt_1 (i := 17) (by decide +kernel) rfl, by decide +kernel⟩, gt_9 (i := 16) (by decide +kernel) rfl, gw_of (i := 118) (by decide +kernel) rfl⟩
theorem yv_X12_storesAll : ho_yV yX12_storesAll cX12_storesAll 3 (some .int) 0 := ⟨⟨gt_8 (i := 65) rfl rfl, gt_1 (i := 17) (by decide +kernel) rfl, by decide +kernel⟩, gt_8 (i := 64) (by decide +kernel) rfl, gw_of (i := 83) (by decide +kernel) rfl⟩
theorem yv_X12_isProvince : ho_yV yX12_isProvince cX12_isProvince 2 (some .boolean) 1 := ⟨⟨gt_8 (i := 83) rfl rfl, gt_1 (i := 17) (by decide +kernel) rfl, by decide +kernel⟩, gt_8 (i := 82) (by decide +kernel) rfl, gw_of (i := 85) (by decide +kernel) rfl⟩
theorem yv_X12_isTrick : ho_yV yX12_isTrick cX12_isTrick 2 (some .boolean) 1 := ⟨⟨gt_8 (i := 91) rfl rfl, gt_1 (i := 17) (by decide +kernel) rfl, by decide +kernel⟩, gt_8 (i := 90) (by decide +kernel) rfl, gw_of (i := 86) (by decide +kernel) rfl⟩
theorem yv_X12_isWatcher : ho_yV yX12_isWatcher cX12_isWatcher 2 (some .boolean) 1 := ⟨⟨gt_8 (i := 144) rfl rfl, gt_1 (i := 17) (by decide +kernel) rfl, by decide +kernel⟩, gt_8 (i := 143) (by decide +kernel) rfl, gw_of (i := 96) (by decide +kernel) rfl⟩
theorem yv_X12_sightAll : ho_yV yX12_sightAll cX12_sightAll 5 (some .int) 2 := ⟨⟨gt_8 (i := 148) rfl rfl, gt_1 (i := 17) (by decide +kernel) rfl, by decide +kernel⟩, gt_8 (i := 147) (by decide +kernel) rfl, gw_of (i := 97) (by decide +kernel) rfl⟩
theorem yv_X12_yieldsComeNow : ho_yV yX12_yieldsComeNow cX12_yieldsComeNow 2 none 0 := ⟨⟨gt_8 (i := 164) rfl rfl, gt_1 (i := 17) (by decide +kernel) rfl, by decide +kernel⟩, gt_8 (i := 163) (by decide +kernel) rfl, gw_of (i := 98) (by decide +kernel) rfl⟩
theorem yv_X12_yieldsGoBack : ho_yV yX12_yieldsGoBack cX12_yieldsGoBack 2 none 0 := ⟨⟨gt_8 (i := 200) rfl rfl, gt_1 (i := 17) (by decide +kernel) rfl, by decide +kernel⟩, gt_8 (i := 199) (by decide +kernel) rfl, gw_of (i := 107) (by decide +kernel) rfl⟩
theorem yv_X12_isAhead : ho_yV yX12_isAhead cX12_isAhead 4 (some .boolean) 3 := ⟨⟨gt_8 (i := 212) rfl rfl, gt_1 (i := 17) (by decide +kernel) rfl, by decide +kernel⟩, gt_8 (i := 211) (by decide +kernel) rfl, gw_of (i := 108) (by decide +kernel) rfl⟩
theorem yv_X12_putsAside : ho_yV yX12_putsAside cX12_putsAside 2 none 0 := ⟨⟨gt_8 (i := 217) rfl rfl, gt_1 (i := 17) (by decide +kernel) rfl, by decide +kernel⟩, gt_8 (i := 216) (by decide +kernel) rfl, gw_of (i := 109) (by decide +kernel) rfl⟩
theorem yv_X12_yearsGo : ho_yV yX12_yearsGo cX12_yearsGo 3 none 1 := ⟨⟨gt_8 (i := 221) rfl rfl, gt_1 (i := 17) (by decide +kernel) rfl, by decide +kernel⟩, gt_8 (i := 220) (by decide +kernel) rfl, gw_of (i := 110) (by decide +kernel) rfl⟩
theorem yv_X12_takesBack : ho_yV yX12_takesBack cX12_takesBack 1 none 0 := ⟨⟨gt_9 (i := 13) rfl rfl, gt_1 (i := 17) (by decide +kernel) rfl, by decide +kernel⟩, gt_9 (i := 12) (by decide +kernel) rfl, gw_of (i := 117) (by decide +kernel) rfl⟩
theorem yv_X12_refuses : ho_yV yX12_refuses cX12_refuses 2 (some .int) 1 := ⟨⟨gt_9 (i := 37) rfl rfl, gt_1 (i := 17) (by decide +kernel) rfl, by decide +kernel⟩, gt_9 (i := 36) (by decide +kernel) rfl, gw_of (i := 119) (by decide +kernel) rfl⟩
theorem yv_X12_isAsCounted : ho_yV yX12_isAsCounted cX12_isAsCounted 2 (some .boolean) 0 := ⟨⟨gt_9 (i := 49) rfl rfl, gt_1 (i := 17) (by decide +kernel) rfl, by decide +kernel⟩, gt_9 (i := 48) (by decide +kernel) rfl, gw_of (i := 121) (by decide +kernel) rfl⟩
theorem yv_X12_laysShows : ho_yV yX12_laysShows cX12_laysShows 3 none 0 := ⟨⟨gt_9 (i := 45) rfl rfl, gt_1 (i := 17) (by decide +kernel) rfl, by decide +kernel⟩, gt_9 (i := 44) (by decide +kernel) rfl, gw_of (i := 120) (by decide +kernel) rfl⟩
theorem yv_X12_alike : ho_yV yX12_alike cX12_alike 5 (some .int) 2 := ⟨⟨gt_9 (i := 57) rfl rfl, gt_1 (i := 17) (by decide +kernel) rfl, by decide +kernel⟩, gt_9 (i := 56) (by decide +kernel) rfl, gw_of (i := 122) (by decide +kernel) rfl⟩
theorem yv_X12_doWatch : ho_yV yX12_doWatch cX12_doWatch 6 (some .boolean) 2 := ⟨⟨gt_9 (i := 65) rfl rfl, gt_1 (i := 17) (by decide +kernel) rfl, by decide +kernel⟩, gt_9 (i := 64) (by decide +kernel) rfl, gw_of (i := 123) (by decide +kernel) rfl⟩
theorem yv_X12_keeps : ho_yV yX12_keeps cX12_keeps 2 none 0 := ⟨⟨gt_9 (i := 81) rfl rfl, gt_1 (i := 17) (by decide +kernel) rfl, by decide +kernel⟩, gt_9 (i := 80) (by decide +kernel) rfl, gw_of (i := 124) (by decide +kernel) rfl⟩
theorem yv_X12_isRefused : ho_yV yX12_isRefused cX12_isRefused 1 (some .boolean) 0 := ⟨⟨gt_9 (i := 90) rfl rfl, gt_1 (i := 17) (by decide +kernel) rfl, by decide +kernel⟩, gt_9 (i := 89) (by decide +kernel) rfl, gw_of (i := 125) (by decide +kernel) rfl⟩
theorem yv_X12_drawOf : ho_yV yX12_drawOf cX12_drawOf 2 (some .int) 1 := ⟨⟨gt_9 (i := 111) rfl rfl, gt_1 (i := 17) (by decide +kernel) rfl, by decide +kernel⟩, gt_9 (i := 110) (by decide +kernel) rfl, gw_of (i := 126) (by decide +kernel) rfl⟩
theorem yv_X12_qHasSquare : ho_yV yX12_qHasSquare cX12_qHasSquare 2 (some .boolean) 0 := ⟨⟨gt_9 (i := 144) rfl rfl, gt_1 (i := 17) (by decide +kernel) rfl, by decide +kernel⟩, gt_9 (i := 143) (by decide +kernel) rfl, gw_of (i := 132) (by decide +kernel) rfl⟩
theorem yv_X12_qDropsNots : ho_yV yX12_qDropsNots cX12_qDropsNots 1 none 0 := ⟨⟨gt_9 (i := 136) rfl rfl, gt_1 (i := 17) (by decide +kernel) rfl, by decide +kernel⟩, gt_9 (i := 135) (by decide +kernel) rfl, gw_of (i := 130) (by decide +kernel) rfl⟩
theorem yv_X12_qFact : ho_yV yX12_qFact cX12_qFact 2 none 0 := ⟨⟨gt_9 (i := 132) rfl rfl, gt_1 (i := 17) (by decide +kernel) rfl, by decide +kernel⟩, gt_9 (i := 131) (by decide +kernel) rfl, gw_of (i := 129) (by decide +kernel) rfl⟩
theorem yv_X12_qGoesOnTest : ho_yV yX12_qGoesOnTest cX12_qGoesOnTest 1 (some .boolean) 0 := ⟨⟨gt_9 (i := 140) rfl rfl, gt_1 (i := 17) (by decide +kernel) rfl, by decide +kernel⟩, gt_9 (i := 139) (by decide +kernel) rfl, gw_of (i := 131) (by decide +kernel) rfl⟩
theorem yv_X12_qOf : ho_yV yX12_qOf cX12_qOf 5 (some .long) 3 := ⟨⟨gt_9 (i := 153) rfl rfl, gt_1 (i := 17) (by decide +kernel) rfl, by decide +kernel⟩, gt_9 (i := 152) (by decide +kernel) rfl, gw_of (i := 134) (by decide +kernel) rfl⟩
theorem yv_X12_qKind : ho_yV yX12_qKind cX12_qKind 2 (some .int) 0 := ⟨⟨gt_9 (i := 124) rfl rfl, gt_1 (i := 17) (by decide +kernel) rfl, by decide +kernel⟩, gt_9 (i := 123) (by decide +kernel) rfl, gw_of (i := 127) (by decide +kernel) rfl⟩
theorem yv_X12_qTold : ho_yV yX12_qTold cX12_qTold 4 (some .long) 1 := ⟨⟨gt_9 (i := 149) rfl rfl, gt_1 (i := 17) (by decide +kernel) rfl, by decide +kernel⟩, gt_9 (i := 148) (by decide +kernel) rfl, gw_of (i := 133) (by decide +kernel) rfl⟩
theorem yv_X12_qTakes : ho_yV yX12_qTakes cX12_qTakes 6 none 3 := ⟨⟨gt_9 (i := 157) rfl rfl, gt_1 (i := 17) (by decide +kernel) rfl, by decide +kernel⟩, gt_9 (i := 156) (by decide +kernel) rfl, gw_of (i := 135) (by decide +kernel) rfl⟩
theorem yv_X12_qTest : ho_yV yX12_qTest cX12_qTest 3 none 0 := ⟨⟨gt_9 (i := 128) rfl rfl, gt_1 (i := 17) (by decide +kernel) rfl, by decide +kernel⟩, gt_9 (i := 127) (by decide +kernel) rfl, gw_of (i := 128) (by decide +kernel) rfl⟩
theorem yv_X12_writes : ho_yV yX12_writes cX12_writes 2 none 1 := ⟨⟨gt_9 (i := 169) rfl rfl, gt_1 (i := 17) (by decide +kernel) rfl, by decide +kernel⟩, gt_9 (i := 168) (by decide +kernel) rfl, gw_of (i := 137) (by decide +kernel) rfl⟩
theorem yv_X12_writesTwo : ho_yV yX12_writesTwo cX12_writesTwo 2 none 1 := ⟨⟨gt_9 (i := 165) rfl rfl, gt_1 (i := 17) (by decide +kernel) rfl, by decide +kernel⟩, gt_9 (i := 164) (by decide +kernel) rfl, gw_of (i := 136) (by decide +kernel) rfl⟩
theorem ys_X12_checked : ho_yS yX12_checked cX12_checked 4 (some .int) 2 := ⟨⟨gt_9 (i := 173) rfl rfl, gt_1 (i := 17) (by decide +kernel) rfl, by decide +kernel⟩, gt_9 (i := 172) (by decide +kernel) rfl⟩
theorem yv_X12_twoAt : ho_yV yX12_twoAt cX12_twoAt 2 (some .int) 1 := ⟨⟨gt_9 (i := 189) rfl rfl, gt_1 (i := 17) (by decide +kernel) rfl, by decide +kernel⟩, gt_9 (i := 188) (by decide +kernel) rfl, gw_of (i := 139) (by decide +kernel) rfl⟩
theorem yv_X12_isImage : ho_yV yX12_isImage cX12_isImage 5 (some .boolean) 1 := ⟨⟨gt_9 (i := 185) rfl rfl, gt_1 (i := 17) (by decide +kernel) rfl, by decide +kernel⟩, gt_9 (i := 184) (by decide +kernel) rfl, gw_of (i := 138) (by decide +kernel) rfl⟩
theorem lk_RX12_276 : Cond.methodLink RX12 276 yX12_look0 ∈ gw := gt_7 (i := 141) (by decide +kernel) rfl
theorem lk_RX12_280 : Cond.methodLink RX12 280 yX12_isLetter ∈ gw := gt_7 (i := 145) (by decide +kernel) rfl
theorem lk_RX12_287 : Cond.methodLink RX12 287 yX12_isHere ∈ gw := gt_7 (i := 137) (by decide +kernel) rfl
theorem lk_RX12_291 : Cond.methodLink RX12 291 yX12_takes ∈ gw := gt_7 (i := 133) (by decide +kernel) rfl
theorem lk_RX12_294 : Cond.methodLink RX12 294 yX12_fail ∈ gw := gt_7 (i := 148) (by decide +kernel) rfl
theorem lk_RX12_298 : Cond.methodLink RX12 298 yX12_takesSign ∈ gw := gt_7 (i := 166) (by decide +kernel) rfl
theorem lk_RX12_301 : Cond.methodLink RX12 301 yX12_isDigit ∈ gw := gt_7 (i := 156) (by decide +kernel) rfl
theorem lk_RX12_304 : Cond.methodLink RX12 304 yX12_isIn ∈ gw := gt_7 (i := 159) (by decide +kernel) rfl
theorem lk_RX12_308 : Cond.methodLink RX12 308 yX12_isOwnHere ∈ gw := gt_7 (i := 190) (by decide +kernel) rfl
theorem lk_RX12_322 : Cond.methodLink RX12 322 yX12_name ∈ gw := gt_7 (i := 186) (by decide +kernel) rfl
theorem lk_RX12_326 : Cond.methodLink RX12 326 yX12_nameOf ∈ gw := gt_7 (i := 196) (by decide +kernel) rfl
theorem lk_RX12_330 : Cond.methodLink RX12 330 yX12_asks ∈ gw := gt_7 (i := 129) (by decide +kernel) rfl
theorem lk_RX12_334 : Cond.methodLink RX12 334 yX12_number ∈ gw := gt_7 (i := 152) (by decide +kernel) rfl
theorem lk_RX12_338 : Cond.methodLink RX12 338 yX12_asksSign ∈ gw := gt_7 (i := 162) (by decide +kernel) rfl
theorem lk_RX12_342 : Cond.methodLink RX12 342 yX12_isFull ∈ gw := gt_7 (i := 178) (by decide +kernel) rfl
theorem lk_RX12_346 : Cond.methodLink RX12 346 yX12_newName ∈ gw := gt_7 (i := 182) (by decide +kernel) rfl
theorem lk_RX12_349 : Cond.methodLink RX12 349 yX12_adds ∈ gw := gt_7 (i := 200) (by decide +kernel) rfl
theorem lk_RX12_364 : Cond.methodLink RX12 364 yX12_qSums ∈ gw := gt_7 (i := 216) (by decide +kernel) rfl
theorem lk_RX12_373 : Cond.methodLink RX12 373 yX12_provinceTold ∈ gw := gt_7 (i := 174) (by decide +kernel) rfl
theorem lk_RX12_376 : Cond.methodLink RX12 376 yX12_trickTold ∈ gw := gt_7 (i := 204) (by decide +kernel) rfl
theorem lk_RX12_379 : Cond.methodLink RX12 379 yX12_watcherTold ∈ gw := gt_7 (i := 208) (by decide +kernel) rfl
theorem lk_RX12_382 : Cond.methodLink RX12 382 yX12_codesTold ∈ gw := gt_7 (i := 212) (by decide +kernel) rfl
theorem lk_RX12_385 : Cond.methodLink RX12 385 yX12_chestTold ∈ gw := gt_7 (i := 125) (by decide +kernel) rfl
theorem lk_RX12_388 : Cond.methodLink RX12 388 yX12_statementTold ∈ gw := gt_7 (i := 170) (by decide +kernel) rfl
theorem lk_RX12_394 : Cond.methodLink RX12 394 yX12_stands ∈ gw := gt_8 (i := 35) (by decide +kernel) rfl
theorem lk_RX12_407 : Cond.methodLink RX12 407 yX12_provinceMany ∈ gw := gt_8 (i := 66) (by decide +kernel) rfl
theorem lk_RX12_410 : Cond.methodLink RX12 410 yX12_trickMany ∈ gw := gt_8 (i := 51) (by decide +kernel) rfl
theorem lk_RX12_413 : Cond.methodLink RX12 413 yX12_watcherMany ∈ gw := gt_8 (i := 100) (by decide +kernel) rfl
theorem lk_RX12_419 : Cond.methodLink RX12 419 yX12_qPuts ∈ gw := gt_8 (i := 116) (by decide +kernel) rfl
theorem lk_RX12_423 : Cond.methodLink RX12 423 yX12_qPartOf ∈ gw := gt_8 (i := 120) (by decide +kernel) rfl
theorem lk_RX12_427 : Cond.methodLink RX12 427 yX12_qJoins ∈ gw := gt_8 (i := 124) (by decide +kernel) rfl
theorem lk_RX12_436 : Cond.methodLink RX12 436 yX12_codesTell ∈ gw := gt_8 (i := 112) (by decide +kernel) rfl
theorem lk_RX12_441 : Cond.methodLink RX12 441 yX12_seatOf ∈ gw := gt_8 (i := 104) (by decide +kernel) rfl
theorem lk_RX12_445 : Cond.methodLink RX12 445 yX12_sightBy ∈ gw := gt_8 (i := 108) (by decide +kernel) rfl
theorem lk_RX12_449 : Cond.methodLink RX12 449 yX12_knownOf ∈ gw := gt_8 (i := 55) (by decide +kernel) rfl
theorem lk_RX12_452 : Cond.methodLink RX12 452 yX12_allTricks ∈ gw := gt_8 (i := 177) (by decide +kernel) rfl
theorem lk_RX12_455 : Cond.methodLink RX12 455 yX12_throughSet ∈ gw := gt_8 (i := 47) (by decide +kernel) rfl
theorem lk_RX12_458 : Cond.methodLink RX12 458 yX12_yieldsCome ∈ gw := gt_8 (i := 165) (by decide +kernel) rfl
theorem lk_RX12_461 : Cond.methodLink RX12 461 yX12_sightOf ∈ gw := gt_8 (i := 96) (by decide +kernel) rfl
theorem lk_RX12_464 : Cond.methodLink RX12 464 yX12_appearsBy ∈ gw := gt_8 (i := 189) (by decide +kernel) rfl
theorem lk_RX12_467 : Cond.methodLink RX12 467 yX12_sightBySet ∈ gw := gt_8 (i := 193) (by decide +kernel) rfl
theorem lk_RX12_470 : Cond.methodLink RX12 470 yX12_bits ∈ gw := gt_8 (i := 59) (by decide +kernel) rfl
theorem lk_RX12_473 : Cond.methodLink RX12 473 yX12_laysSights ∈ gw := gt_8 (i := 173) (by decide +kernel) rfl
theorem lk_RX12_476 : Cond.methodLink RX12 476 yX12_canShow ∈ gw := gt_8 (i := 181) (by decide +kernel) rfl
theorem lk_RX12_479 : Cond.methodLink RX12 479 yX12_isBetter ∈ gw := gt_8 (i := 185) (by decide +kernel) rfl
theorem lk_RX12_488 : Cond.methodLink RX12 488 yX12_isKept ∈ gw := gt_8 (i := 239) (by decide +kernel) rfl
theorem lk_RX12_494 : Cond.methodLink RX12 494 yX12_isSeenThrough ∈ gw := gt_8 (i := 234) (by decide +kernel) rfl
theorem lk_RX12_505 : Cond.methodLink RX12 505 yX12_showGoes ∈ gw := gt_8 (i := 230) (by decide +kernel) rfl
theorem lk_RX12_508 : Cond.methodLink RX12 508 yX12_debtGoes ∈ gw := gt_9 (i := 3) (by decide +kernel) rfl
theorem lk_RX12_511 : Cond.methodLink RX12 511 yX12_bestShow ∈ gw := gt_8 (i := 169) (by decide +kernel) rfl
theorem lk_RX12_514 : Cond.methodLink RX12 514 yX12_yearEnds ∈ gw := gt_8 (i := 226) (by decide +kernel) rfl
theorem lk_RX12_517 : Cond.methodLink RX12 517 yX12_yearGoes ∈ gw := gt_8 (i := 222) (by decide +kernel) rfl
theorem lk_RX12_520 : Cond.methodLink RX12 520 yX12_triesAnew ∈ gw := gt_9 (i := 14) (by decide +kernel) rfl
theorem lk_RX12_523 : Cond.methodLink RX12 523 yX12_storesAll ∈ gw := gt_8 (i := 62) (by decide +kernel) rfl
theorem lk_RX12_530 : Cond.methodLink RX12 530 yX12_isProvince ∈ gw := gt_8 (i := 80) (by decide +kernel) rfl
theorem lk_RX12_533 : Cond.methodLink RX12 533 yX12_isTrick ∈ gw := gt_8 (i := 88) (by decide +kernel) rfl
theorem lk_RX12_536 : Cond.methodLink RX12 536 yX12_timesOf ∈ gw := gt_8 (i := 92) (by decide +kernel) rfl
theorem lk_RX12_539 : Cond.methodLink RX12 539 yX12_isWatcher ∈ gw := gt_8 (i := 141) (by decide +kernel) rfl
theorem lk_RX12_542 : Cond.methodLink RX12 542 yX12_sightAll ∈ gw := gt_8 (i := 145) (by decide +kernel) rfl
theorem lk_RX12_545 : Cond.methodLink RX12 545 yX12_yieldsComeNow ∈ gw := gt_8 (i := 161) (by decide +kernel) rfl
theorem lk_RX12_548 : Cond.methodLink RX12 548 yX12_yieldsGoBack ∈ gw := gt_8 (i := 197) (by decide +kernel) rfl
theorem lk_RX12_551 : Cond.methodLink RX12 551 yX12_isAhead ∈ gw := gt_8 (i := 209) (by decide +kernel) rfl
theorem lk_RX12_556 : Cond.methodLink RX12 556 yX12_putsAside ∈ gw := gt_8 (i := 214) (by decide +kernel) rfl
theorem lk_RX12_559 : Cond.methodLink RX12 559 yX12_yearsGo ∈ gw := gt_8 (i := 218) (by decide +kernel) rfl
theorem lk_RX12_562 : Cond.methodLink RX12 562 yX12_takesBack ∈ gw := gt_9 (i := 10) (by decide +kernel) rfl
theorem lk_RX12_565 : Cond.methodLink RX12 565 yX12_refuses ∈ gw := gt_9 (i := 34) (by decide +kernel) rfl
theorem lk_RX12_571 : Cond.methodLink RX12 571 yX12_isAsCounted ∈ gw := gt_9 (i := 46) (by decide +kernel) rfl
theorem lk_RX12_574 : Cond.methodLink RX12 574 yX12_laysShows ∈ gw := gt_9 (i := 42) (by decide +kernel) rfl
theorem lk_RX12_577 : Cond.methodLink RX12 577 yX12_alike ∈ gw := gt_9 (i := 54) (by decide +kernel) rfl
theorem lk_RX12_580 : Cond.methodLink RX12 580 yX12_doWatch ∈ gw := gt_9 (i := 62) (by decide +kernel) rfl
theorem lk_RX12_586 : Cond.methodLink RX12 586 yX12_keeps ∈ gw := gt_9 (i := 78) (by decide +kernel) rfl
theorem lk_RX12_591 : Cond.methodLink RX12 591 yX12_isRefused ∈ gw := gt_9 (i := 87) (by decide +kernel) rfl
theorem lk_RX12_604 : Cond.methodLink RX12 604 yX12_drawOf ∈ gw := gt_9 (i := 108) (by decide +kernel) rfl
theorem lk_RX12_607 : Cond.methodLink RX12 607 yX12_qCode ∈ gw := gt_8 (i := 4) (by decide +kernel) rfl
theorem lk_RX12_610 : Cond.methodLink RX12 610 yX12_qIsBracket ∈ gw := gt_8 (i := 24) (by decide +kernel) rfl
theorem lk_RX12_613 : Cond.methodLink RX12 613 yX12_qDrops ∈ gw := gt_8 (i := 12) (by decide +kernel) rfl
theorem lk_RX12_616 : Cond.methodLink RX12 616 yX12_qWordHere ∈ gw := gt_7 (i := 228) (by decide +kernel) rfl
theorem lk_RX12_619 : Cond.methodLink RX12 619 yX12_isAllowed ∈ gw := gt_7 (i := 232) (by decide +kernel) rfl
theorem lk_RX12_622 : Cond.methodLink RX12 622 yX12_qWordOf ∈ gw := gt_7 (i := 224) (by decide +kernel) rfl
theorem lk_RX12_625 : Cond.methodLink RX12 625 yX12_qOpens ∈ gw := gt_7 (i := 236) (by decide +kernel) rfl
theorem lk_RX12_628 : Cond.methodLink RX12 628 yX12_qAsksWord ∈ gw := gt_8 (i := 0) (by decide +kernel) rfl
theorem lk_RX12_631 : Cond.methodLink RX12 631 yX12_qEndsPart ∈ gw := gt_8 (i := 8) (by decide +kernel) rfl
theorem lk_RX12_634 : Cond.methodLink RX12 634 yX12_qBracket ∈ gw := gt_8 (i := 20) (by decide +kernel) rfl
theorem lk_RX12_637 : Cond.methodLink RX12 637 yX12_qDropsToBracket ∈ gw := gt_8 (i := 27) (by decide +kernel) rfl
theorem lk_RX12_640 : Cond.methodLink RX12 640 yX12_qIsOn ∈ gw := gt_8 (i := 31) (by decide +kernel) rfl
theorem lk_RX12_643 : Cond.methodLink RX12 643 yX12_qPartTold ∈ gw := gt_7 (i := 220) (by decide +kernel) rfl
theorem lk_RX12_646 : Cond.methodLink RX12 646 yX12_qGoesOn ∈ gw := gt_8 (i := 16) (by decide +kernel) rfl
theorem lk_RX12_649 : Cond.methodLink RX12 649 yX12_qFact ∈ gw := gt_9 (i := 129) (by decide +kernel) rfl
theorem lk_RX12_652 : Cond.methodLink RX12 652 yX12_qDropsNots ∈ gw := gt_9 (i := 133) (by decide +kernel) rfl
theorem lk_RX12_655 : Cond.methodLink RX12 655 yX12_qGoesOnTest ∈ gw := gt_9 (i := 137) (by decide +kernel) rfl
theorem lk_RX12_658 : Cond.methodLink RX12 658 yX12_qHasSquare ∈ gw := gt_9 (i := 141) (by decide +kernel) rfl
theorem lk_RX12_665 : Cond.methodLink RX12 665 yX12_qClip ∈ gw := gt_8 (i := 128) (by decide +kernel) rfl
theorem lk_RX12_669 : Cond.methodLink RX12 669 yX12_qFloor ∈ gw := gt_8 (i := 133) (by decide +kernel) rfl
theorem lk_RX12_673 : Cond.methodLink RX12 673 yX12_qOf ∈ gw := gt_9 (i := 150) (by decide +kernel) rfl
theorem lk_RX12_687 : Cond.methodLink RX12 687 yX12_qKind ∈ gw := gt_9 (i := 121) (by decide +kernel) rfl
theorem lk_RX12_690 : Cond.methodLink RX12 690 yX12_qTest ∈ gw := gt_9 (i := 125) (by decide +kernel) rfl
theorem lk_RX12_693 : Cond.methodLink RX12 693 yX12_qTold ∈ gw := gt_9 (i := 146) (by decide +kernel) rfl
theorem lk_RX12_697 : Cond.methodLink RX12 697 yX12_qTakes ∈ gw := gt_9 (i := 154) (by decide +kernel) rfl
theorem lk_RX12_704 : Cond.methodLink RX12 704 yX12_writes ∈ gw := gt_9 (i := 166) (by decide +kernel) rfl
theorem lk_RX12_707 : Cond.methodLink RX12 707 yX12_writesTwo ∈ gw := gt_9 (i := 162) (by decide +kernel) rfl
theorem lk_RX12_711 : Cond.methodLink RX12 711 yX12_checked ∈ gw := gt_9 (i := 171) (by decide +kernel) rfl
theorem lk_RX12_715 : Cond.methodLink RX12 715 yX12_twoAt ∈ gw := gt_9 (i := 186) (by decide +kernel) rfl
theorem lk_RX12_718 : Cond.methodLink RX12 718 yX12_isImage ∈ gw := gt_9 (i := 182) (by decide +kernel) rfl
end
section
/-! the class: its objects and rows by numbers; States at 1000, 1010 .. -/
def shT : List (Nat × Nat) := [(1, 11), (4, 6), (7, 20), (0, 0), (0, 0), (0, 0), (0, 0), (0, 0), (0, 0), (0, 0), (1, 10), (2, 1600), (4, 35), (0, 0), (0, 0), (0, 0), (0, 0), (0, 0), (0, 0), (0, 0), (1, 3), (0, 0), (0, 0), (0, 0), (0, 0), (1, 7), (0, 0), (0, 0), (0, 0), (0, 0), (1, 6), (0, 0), (0, 0), (4, 40), (0, 0), (1, 7), (0, 0), (0, 0), (0, 0), (0, 0), (1, 4), (4, 1600), (4, 64), (0, 0), (0, 0), (0, 0), (0, 0), (0, 0), (0, 0), (0, 0), (1, 8), (4, 6), (4, 6), (4, 40), (4, 5), (0, 0), (0, 0), (0, 0), (0, 0), (0, 0), (1, 0), (4, 61), (4, 61), (4, 61), (4, 61), (4, 4), (4, 6), (4, 6), (4, 6), (4, 6), (1, 1), (4, 16), (4, 16), (4, 64), (8, 6), (4, 64), (4, 64), (4, 64), (4, 64), (4, 64), (4, 64), (0, 0), (0, 0), (0, 0), (0, 0), (0, 0), (0, 0), (0, 0), (0, 0), (0, 0), (1, 5), (4, 48), (0, 0), (0, 0), (0, 0), (0, 0), (0, 0), (0, 0), (0, 0), (0, 0), (1, 2), (4, 3), (8, 3), (4, 6), (4, 6), (4, 6), (4, 6), (4, 6), (4, 6), (4, 6), (4, 6), (4, 5), (4, 5), (1, 4), (4, 1600), (4, 64), (1, 4), (4, 1600), (4, 64), (0, 0), (0, 0), (0, 0), (0, 0), (0, 0), (0, 0), (0, 0), (0, 0), (0, 0), (0, 0), (0, 0), (0, 0), (0, 0), (0, 0), (0, 0), (0, 0), (0, 0), (0, 0), (0, 0), (0, 0), (0, 0), (0, 0), (0, 0), (0, 0), (0, 0), (0, 0), (0, 0), (0, 0), (0, 0), (0, 0), (0, 0), (1, 2), (4, 3), (8, 3), (4, 6), (4, 6), (4, 6), (4, 6), (4, 6), (4, 6), (4, 6), (4, 6), (4, 5), (4, 5), (1, 4), (4, 1600), (4, 64), (1, 4), (4, 1600), (4, 64), (0, 0)]
def shS : List (Nat × Nat) := [(1, 9), (4, 6), (4, 6), (4, 6), (4, 5), (4, 90), (0, 0), (0, 0), (0, 0), (0, 0)]
def shH (a : Nat) : Nat × Nat := if a < 1000 then shT.getD a (0, 0) else if a < 1260 then shS.getD (a % 10) (0, 0) else (0, 0)
def kdH : List (List Nat) := [[2, 2, 2, 2, 2, 2, 2, 2, 2, 2, 2, 2, 2, 2, 0, 0], [0, 0, 0, 0, 2, 2, 2, 2, 2], [0, 0, 0, 0, 0, 2, 2, 2, 2, 2, 2, 2, 2, 2, 2, 2], [2, 2, 3, 0, 0], [2, 2, 0], [2, 0, 0], [2, 2, 2, 2, 0], [2, 3, 0], [3, 2, 2, 0, 0, 0, 2, 2], [0, 0, 0, 2, 2, 2, 2, 0, 2], [2, 0, 0, 0, 0, 0, 0, 0, 0, 0, 2], [2, 3, 3, 2, 2, 2, 2, 2, 2, 2, 2, 2, 2, 0, 0, 0, 0]]
def ptT : List (List Nat) := [[61, 62, 63, 64, 65, 50, 1220, 1230, 1240, 1250, 66, 67, 68, 69, 0, 0], [0, 0, 0, 0, 50, 71, 72, 73, 74], [0, 0, 0, 0, 0, 1, 2, 6, 7, 8, 9, 10, 11, 12, 13, 16], [10, 25, 0, 0, 0], [1, 2, 0], [91, 0, 0], [10, 35, 40, 33, 0], [10, 0, 0], [0, 51, 52, 0, 0, 0, 53, 54], [0, 0, 0, 1, 2, 3, 4, 0, 5], [11, 0, 0, 0, 0, 0, 0, 0, 0, 0, 12], [10, 0, 0, 20, 30, 50, 60, 70, 90, 1200, 1210, 2, 1, 0, 0, 0, 0]]
def nfH : List Nat := [16, 9, 16, 5, 3, 3, 5, 3, 8, 9, 11, 17]
def ptC (c a k : Nat) : Nat := if c = 2 ∨ c = 4 ∨ c = 9 then a + (ptT.getD c []).getD k 0 else (ptT.getD c []).getD k 0
def alP (a : Nat) : Bool := (shH a).1 != 0
def alH : List Nat := (List.range 1260).filter alP
def yH : Sy := (alH, shH, fun c k => (kdH.getD c []).getD k 0, fun a k => ptC (shH a).2 a k, fun a i => if a = 2 then 1000 + 10 * i else a + 1 + i, fun c => nfH.getD c 0)
theorem yH1 : yH.1 = alH := by unfold yH; dsimp only
theorem mem_rf {N a : Nat} {p : Nat → Bool} (h : a < N) (h2 : p a = true) : a ∈ (List.range N).filter p := List.mem_filter.mpr ⟨List.mem_range.mpr h, h2⟩
theorem rf_mem {N a : Nat} {p : Nat → Bool} (h : a ∈ (List.range N).filter p) : a < N := List.mem_range.mp (List.mem_filter.mp h).1
theorem memH {a : Nat} (h : a < 1260) (h2 : (shH a).1 ≠ 0) : a ∈ yH.1 := by
  rw [yH1]
  unfold alH
  exact mem_rf h (bne_iff_ne.mpr h2)
theorem aH_0 : 0 ∈ yH.1 ∧ yH.2.1 0 = (1, 11) := ⟨memH (by decide) (by decide), rfl⟩
theorem aH_1 : 1 ∈ yH.1 ∧ yH.2.1 1 = (4, 6) := ⟨memH (by decide) (by decide), rfl⟩
theorem aH_2 : 2 ∈ yH.1 ∧ yH.2.1 2 = (7, 20) := ⟨memH (by decide) (by decide), rfl⟩
theorem aH_10 : 10 ∈ yH.1 ∧ yH.2.1 10 = (1, 10) := ⟨memH (by decide) (by decide), rfl⟩
theorem aH_11 : 11 ∈ yH.1 ∧ yH.2.1 11 = (2, 1600) := ⟨memH (by decide) (by decide), rfl⟩
theorem aH_12 : 12 ∈ yH.1 ∧ yH.2.1 12 = (4, 35) := ⟨memH (by decide) (by decide), rfl⟩
theorem aH_20 : 20 ∈ yH.1 ∧ yH.2.1 20 = (1, 3) := ⟨memH (by decide) (by decide), rfl⟩
theorem aH_25 : 25 ∈ yH.1 ∧ yH.2.1 25 = (1, 7) := ⟨memH (by decide) (by decide), rfl⟩
theorem aH_30 : 30 ∈ yH.1 ∧ yH.2.1 30 = (1, 6) := ⟨memH (by decide) (by decide), rfl⟩
theorem aH_33 : 33 ∈ yH.1 ∧ yH.2.1 33 = (4, 40) := ⟨memH (by decide) (by decide), rfl⟩
theorem aH_35 : 35 ∈ yH.1 ∧ yH.2.1 35 = (1, 7) := ⟨memH (by decide) (by decide), rfl⟩
theorem aH_40 : 40 ∈ yH.1 ∧ yH.2.1 40 = (1, 4) := ⟨memH (by decide) (by decide), rfl⟩
theorem aH_50 : 50 ∈ yH.1 ∧ yH.2.1 50 = (1, 8) := ⟨memH (by decide) (by decide), rfl⟩
theorem aH_51 : 51 ∈ yH.1 ∧ yH.2.1 51 = (4, 6) := ⟨memH (by decide) (by decide), rfl⟩
theorem aH_52 : 52 ∈ yH.1 ∧ yH.2.1 52 = (4, 6) := ⟨memH (by decide) (by decide), rfl⟩
theorem aH_53 : 53 ∈ yH.1 ∧ yH.2.1 53 = (4, 40) := ⟨memH (by decide) (by decide), rfl⟩
theorem aH_54 : 54 ∈ yH.1 ∧ yH.2.1 54 = (4, 5) := ⟨memH (by decide) (by decide), rfl⟩
theorem aH_60 : 60 ∈ yH.1 ∧ yH.2.1 60 = (1, 0) := ⟨memH (by decide) (by decide), rfl⟩
theorem aH_61 : 61 ∈ yH.1 ∧ yH.2.1 61 = (4, 61) := ⟨memH (by decide) (by decide), rfl⟩
theorem aH_62 : 62 ∈ yH.1 ∧ yH.2.1 62 = (4, 61) := ⟨memH (by decide) (by decide), rfl⟩
theorem aH_63 : 63 ∈ yH.1 ∧ yH.2.1 63 = (4, 61) := ⟨memH (by decide) (by decide), rfl⟩
theorem aH_64 : 64 ∈ yH.1 ∧ yH.2.1 64 = (4, 61) := ⟨memH (by decide) (by decide), rfl⟩
theorem aH_65 : 65 ∈ yH.1 ∧ yH.2.1 65 = (4, 4) := ⟨memH (by decide) (by decide), rfl⟩
theorem aH_66 : 66 ∈ yH.1 ∧ yH.2.1 66 = (4, 6) := ⟨memH (by decide) (by decide), rfl⟩
theorem aH_67 : 67 ∈ yH.1 ∧ yH.2.1 67 = (4, 6) := ⟨memH (by decide) (by decide), rfl⟩
theorem aH_68 : 68 ∈ yH.1 ∧ yH.2.1 68 = (4, 6) := ⟨memH (by decide) (by decide), rfl⟩
theorem aH_69 : 69 ∈ yH.1 ∧ yH.2.1 69 = (4, 6) := ⟨memH (by decide) (by decide), rfl⟩
theorem aH_70 : 70 ∈ yH.1 ∧ yH.2.1 70 = (1, 1) := ⟨memH (by decide) (by decide), rfl⟩
theorem aH_71 : 71 ∈ yH.1 ∧ yH.2.1 71 = (4, 16) := ⟨memH (by decide) (by decide), rfl⟩
theorem aH_72 : 72 ∈ yH.1 ∧ yH.2.1 72 = (4, 16) := ⟨memH (by decide) (by decide), rfl⟩
theorem aH_73 : 73 ∈ yH.1 ∧ yH.2.1 73 = (4, 64) := ⟨memH (by decide) (by decide), rfl⟩
theorem aH_74 : 74 ∈ yH.1 ∧ yH.2.1 74 = (8, 6) := ⟨memH (by decide) (by decide), rfl⟩
theorem aH_90 : 90 ∈ yH.1 ∧ yH.2.1 90 = (1, 5) := ⟨memH (by decide) (by decide), rfl⟩
theorem aH_91 : 91 ∈ yH.1 ∧ yH.2.1 91 = (4, 48) := ⟨memH (by decide) (by decide), rfl⟩
theorem aH_1200 : 1200 ∈ yH.1 ∧ yH.2.1 1200 = (1, 9) := ⟨memH (by decide) (by decide), rfl⟩
theorem aH_1201 : 1201 ∈ yH.1 ∧ yH.2.1 1201 = (4, 6) := ⟨memH (by decide) (by decide), rfl⟩
theorem aH_1202 : 1202 ∈ yH.1 ∧ yH.2.1 1202 = (4, 6) := ⟨memH (by decide) (by decide), rfl⟩
theorem aH_1203 : 1203 ∈ yH.1 ∧ yH.2.1 1203 = (4, 6) := ⟨memH (by decide) (by decide), rfl⟩
theorem aH_1204 : 1204 ∈ yH.1 ∧ yH.2.1 1204 = (4, 5) := ⟨memH (by decide) (by decide), rfl⟩
theorem aH_1205 : 1205 ∈ yH.1 ∧ yH.2.1 1205 = (4, 90) := ⟨memH (by decide) (by decide), rfl⟩
theorem aH_1210 : 1210 ∈ yH.1 ∧ yH.2.1 1210 = (1, 9) := ⟨memH (by decide) (by decide), rfl⟩
theorem aH_1220 : 1220 ∈ yH.1 ∧ yH.2.1 1220 = (1, 9) := ⟨memH (by decide) (by decide), rfl⟩
theorem aH_1230 : 1230 ∈ yH.1 ∧ yH.2.1 1230 = (1, 9) := ⟨memH (by decide) (by decide), rfl⟩
theorem aH_1240 : 1240 ∈ yH.1 ∧ yH.2.1 1240 = (1, 9) := ⟨memH (by decide) (by decide), rfl⟩
theorem aH_1242 : 1242 ∈ yH.1 ∧ yH.2.1 1242 = (4, 6) := ⟨memH (by decide) (by decide), rfl⟩
theorem aH_1250 : 1250 ∈ yH.1 ∧ yH.2.1 1250 = (1, 9) := ⟨memH (by decide) (by decide), rfl⟩
theorem ltH {a : Nat} (h : a ∈ yH.1) : a < 1260 := by
  rw [yH1] at h
  unfold alH at h
  exact rf_mem h
theorem c2H {a : Nat} (h : a ∈ yH.1 ∧ yH.2.1 a = (1, 2)) : a = 100 ∨ a = 150 := by
  have k : ∀ a, a < 1260 → shH a = (1, 2) → (a = 100 ∨ a = 150) := by decide +kernel
  exact k a (ltH h.1) h.2
theorem c4H {a : Nat} (h : a ∈ yH.1 ∧ yH.2.1 a = (1, 4)) : a = 40 ∨ a = 113 ∨ a = 116 ∨ a = 163 ∨ a = 166 := by
  have k : ∀ a, a < 1260 → shH a = (1, 4) → (a = 40 ∨ a = 113 ∨ a = 116 ∨ a = 163 ∨ a = 166) := by decide +kernel
  exact k a (ltH h.1) h.2
theorem c9H {a : Nat} (h : a ∈ yH.1 ∧ yH.2.1 a = (1, 9)) : 1000 ≤ a ∧ a < 1260 ∧ a % 10 = 0 := by
  have k : ∀ a, a < 1260 → shH a = (1, 9) → (1000 ≤ a ∧ a < 1260 ∧ a % 10 = 0) := by decide +kernel
  exact k a (ltH h.1) h.2
theorem rH_2_1 {a : Nat} (h : a ∈ yH.1 ∧ yH.2.1 a = (1, 2)) : (a + 1) ∈ yH.1 ∧ yH.2.1 (a + 1) = (4, 3) := by
  rcases c2H h with rfl | rfl <;> exact ⟨memH (by decide) (by decide), rfl⟩
theorem rH_2_2 {a : Nat} (h : a ∈ yH.1 ∧ yH.2.1 a = (1, 2)) : (a + 2) ∈ yH.1 ∧ yH.2.1 (a + 2) = (8, 3) := by
  rcases c2H h with rfl | rfl <;> exact ⟨memH (by decide) (by decide), rfl⟩
theorem rH_2_6 {a : Nat} (h : a ∈ yH.1 ∧ yH.2.1 a = (1, 2)) : (a + 6) ∈ yH.1 ∧ yH.2.1 (a + 6) = (4, 6) := by
  rcases c2H h with rfl | rfl <;> exact ⟨memH (by decide) (by decide), rfl⟩
theorem rH_2_7 {a : Nat} (h : a ∈ yH.1 ∧ yH.2.1 a = (1, 2)) : (a + 7) ∈ yH.1 ∧ yH.2.1 (a + 7) = (4, 6) := by
  rcases c2H h with rfl | rfl <;> exact ⟨memH (by decide) (by decide), rfl⟩
theorem rH_2_8 {a : Nat} (h : a ∈ yH.1 ∧ yH.2.1 a = (1, 2)) : (a + 8) ∈ yH.1 ∧ yH.2.1 (a + 8) = (4, 6) := by
  rcases c2H h with rfl | rfl <;> exact ⟨memH (by decide) (by decide), rfl⟩
theorem rH_2_9 {a : Nat} (h : a ∈ yH.1 ∧ yH.2.1 a = (1, 2)) : (a + 9) ∈ yH.1 ∧ yH.2.1 (a + 9) = (4, 6) := by
  rcases c2H h with rfl | rfl <;> exact ⟨memH (by decide) (by decide), rfl⟩
theorem rH_2_10 {a : Nat} (h : a ∈ yH.1 ∧ yH.2.1 a = (1, 2)) : (a + 10) ∈ yH.1 ∧ yH.2.1 (a + 10) = (4, 6) := by
  rcases c2H h with rfl | rfl <;> exact ⟨memH (by decide) (by decide), rfl⟩
theorem rH_2_11 {a : Nat} (h : a ∈ yH.1 ∧ yH.2.1 a = (1, 2)) : (a + 11) ∈ yH.1 ∧ yH.2.1 (a + 11) = (4, 5) := by
  rcases c2H h with rfl | rfl <;> exact ⟨memH (by decide) (by decide), rfl⟩
theorem rH_2_12 {a : Nat} (h : a ∈ yH.1 ∧ yH.2.1 a = (1, 2)) : (a + 12) ∈ yH.1 ∧ yH.2.1 (a + 12) = (4, 5) := by
  rcases c2H h with rfl | rfl <;> exact ⟨memH (by decide) (by decide), rfl⟩
theorem rH_2_13 {a : Nat} (h : a ∈ yH.1 ∧ yH.2.1 a = (1, 2)) : (a + 13) ∈ yH.1 ∧ yH.2.1 (a + 13) = (1, 4) := by
  rcases c2H h with rfl | rfl <;> exact ⟨memH (by decide) (by decide), rfl⟩
theorem rH_2_16 {a : Nat} (h : a ∈ yH.1 ∧ yH.2.1 a = (1, 2)) : (a + 16) ∈ yH.1 ∧ yH.2.1 (a + 16) = (1, 4) := by
  rcases c2H h with rfl | rfl <;> exact ⟨memH (by decide) (by decide), rfl⟩
theorem rH_4_1 {a : Nat} (h : a ∈ yH.1 ∧ yH.2.1 a = (1, 4)) : (a + 1) ∈ yH.1 ∧ yH.2.1 (a + 1) = (4, 1600) := by
  rcases c4H h with rfl | rfl | rfl | rfl | rfl <;> exact ⟨memH (by decide) (by decide), rfl⟩
theorem rH_4_2 {a : Nat} (h : a ∈ yH.1 ∧ yH.2.1 a = (1, 4)) : (a + 2) ∈ yH.1 ∧ yH.2.1 (a + 2) = (4, 64) := by
  rcases c4H h with rfl | rfl | rfl | rfl | rfl <;> exact ⟨memH (by decide) (by decide), rfl⟩
theorem rH_9_1 {a : Nat} (h : a ∈ yH.1 ∧ yH.2.1 a = (1, 9)) : (a + 1) ∈ yH.1 ∧ yH.2.1 (a + 1) = (4, 6) := by
  obtain ⟨h1, h2, h3⟩ := c9H h
  have e : shH (a + 1) = (4, 6) := by
    unfold shH
    rw [if_neg (by omega), if_pos (by omega), show (a + 1) % 10 = 1 by omega]
    rfl
  exact ⟨memH (by omega) (by rw [e]; decide), e⟩
theorem rH_9_2 {a : Nat} (h : a ∈ yH.1 ∧ yH.2.1 a = (1, 9)) : (a + 2) ∈ yH.1 ∧ yH.2.1 (a + 2) = (4, 6) := by
  obtain ⟨h1, h2, h3⟩ := c9H h
  have e : shH (a + 2) = (4, 6) := by
    unfold shH
    rw [if_neg (by omega), if_pos (by omega), show (a + 2) % 10 = 2 by omega]
    rfl
  exact ⟨memH (by omega) (by rw [e]; decide), e⟩
theorem rH_9_3 {a : Nat} (h : a ∈ yH.1 ∧ yH.2.1 a = (1, 9)) : (a + 3) ∈ yH.1 ∧ yH.2.1 (a + 3) = (4, 6) := by
  obtain ⟨h1, h2, h3⟩ := c9H h
  have e : shH (a + 3) = (4, 6) := by
    unfold shH
    rw [if_neg (by omega), if_pos (by omega), show (a + 3) % 10 = 3 by omega]
    rfl
  exact ⟨memH (by omega) (by rw [e]; decide), e⟩
theorem rH_9_4 {a : Nat} (h : a ∈ yH.1 ∧ yH.2.1 a = (1, 9)) : (a + 4) ∈ yH.1 ∧ yH.2.1 (a + 4) = (4, 5) := by
  obtain ⟨h1, h2, h3⟩ := c9H h
  have e : shH (a + 4) = (4, 5) := by
    unfold shH
    rw [if_neg (by omega), if_pos (by omega), show (a + 4) % 10 = 4 by omega]
    rfl
  exact ⟨memH (by omega) (by rw [e]; decide), e⟩
theorem rH_9_5 {a : Nat} (h : a ∈ yH.1 ∧ yH.2.1 a = (1, 9)) : (a + 5) ∈ yH.1 ∧ yH.2.1 (a + 5) = (4, 90) := by
  obtain ⟨h1, h2, h3⟩ := c9H h
  have e : shH (a + 5) = (4, 90) := by
    unfold shH
    rw [if_neg (by omega), if_pos (by omega), show (a + 5) % 10 = 5 by omega]
    rfl
  exact ⟨memH (by omega) (by rw [e]; decide), e⟩
theorem pH_2_5 {a : Nat} (h : yH.2.1 a = (1, 2)) : yH.2.2.2.1 a 5 = a + 1 := by
  have h1 : shH a = (1, 2) := h
  show ptC (shH a).2 a 5 = _
  rw [h1]
  rfl
theorem pH_2_6 {a : Nat} (h : yH.2.1 a = (1, 2)) : yH.2.2.2.1 a 6 = a + 2 := by
  have h1 : shH a = (1, 2) := h
  show ptC (shH a).2 a 6 = _
  rw [h1]
  rfl
theorem pH_2_7 {a : Nat} (h : yH.2.1 a = (1, 2)) : yH.2.2.2.1 a 7 = a + 6 := by
  have h1 : shH a = (1, 2) := h
  show ptC (shH a).2 a 7 = _
  rw [h1]
  rfl
theorem pH_2_8 {a : Nat} (h : yH.2.1 a = (1, 2)) : yH.2.2.2.1 a 8 = a + 7 := by
  have h1 : shH a = (1, 2) := h
  show ptC (shH a).2 a 8 = _
  rw [h1]
  rfl
theorem pH_2_9 {a : Nat} (h : yH.2.1 a = (1, 2)) : yH.2.2.2.1 a 9 = a + 8 := by
  have h1 : shH a = (1, 2) := h
  show ptC (shH a).2 a 9 = _
  rw [h1]
  rfl
theorem pH_2_10 {a : Nat} (h : yH.2.1 a = (1, 2)) : yH.2.2.2.1 a 10 = a + 9 := by
  have h1 : shH a = (1, 2) := h
  show ptC (shH a).2 a 10 = _
  rw [h1]
  rfl
theorem pH_2_11 {a : Nat} (h : yH.2.1 a = (1, 2)) : yH.2.2.2.1 a 11 = a + 10 := by
  have h1 : shH a = (1, 2) := h
  show ptC (shH a).2 a 11 = _
  rw [h1]
  rfl
theorem pH_2_12 {a : Nat} (h : yH.2.1 a = (1, 2)) : yH.2.2.2.1 a 12 = a + 11 := by
  have h1 : shH a = (1, 2) := h
  show ptC (shH a).2 a 12 = _
  rw [h1]
  rfl
theorem pH_2_13 {a : Nat} (h : yH.2.1 a = (1, 2)) : yH.2.2.2.1 a 13 = a + 12 := by
  have h1 : shH a = (1, 2) := h
  show ptC (shH a).2 a 13 = _
  rw [h1]
  rfl
theorem pH_2_14 {a : Nat} (h : yH.2.1 a = (1, 2)) : yH.2.2.2.1 a 14 = a + 13 := by
  have h1 : shH a = (1, 2) := h
  show ptC (shH a).2 a 14 = _
  rw [h1]
  rfl
theorem pH_2_15 {a : Nat} (h : yH.2.1 a = (1, 2)) : yH.2.2.2.1 a 15 = a + 16 := by
  have h1 : shH a = (1, 2) := h
  show ptC (shH a).2 a 15 = _
  rw [h1]
  rfl
theorem pH_4_0 {a : Nat} (h : yH.2.1 a = (1, 4)) : yH.2.2.2.1 a 0 = a + 1 := by
  have h1 : shH a = (1, 4) := h
  show ptC (shH a).2 a 0 = _
  rw [h1]
  rfl
theorem pH_4_1 {a : Nat} (h : yH.2.1 a = (1, 4)) : yH.2.2.2.1 a 1 = a + 2 := by
  have h1 : shH a = (1, 4) := h
  show ptC (shH a).2 a 1 = _
  rw [h1]
  rfl
theorem pH_7_0 {a : Nat} (h : yH.2.1 a = (1, 7)) : yH.2.2.2.1 a 0 = 10 := by
  have h1 : shH a = (1, 7) := h
  show ptC (shH a).2 a 0 = _
  rw [h1]
  rfl
theorem pH_9_3 {a : Nat} (h : yH.2.1 a = (1, 9)) : yH.2.2.2.1 a 3 = a + 1 := by
  have h1 : shH a = (1, 9) := h
  show ptC (shH a).2 a 3 = _
  rw [h1]
  rfl
theorem pH_9_4 {a : Nat} (h : yH.2.1 a = (1, 9)) : yH.2.2.2.1 a 4 = a + 2 := by
  have h1 : shH a = (1, 9) := h
  show ptC (shH a).2 a 4 = _
  rw [h1]
  rfl
theorem pH_9_5 {a : Nat} (h : yH.2.1 a = (1, 9)) : yH.2.2.2.1 a 5 = a + 3 := by
  have h1 : shH a = (1, 9) := h
  show ptC (shH a).2 a 5 = _
  rw [h1]
  rfl
theorem pH_9_6 {a : Nat} (h : yH.2.1 a = (1, 9)) : yH.2.2.2.1 a 6 = a + 4 := by
  have h1 : shH a = (1, 9) := h
  show ptC (shH a).2 a 6 = _
  rw [h1]
  rfl
theorem pH_9_8 {a : Nat} (h : yH.2.1 a = (1, 9)) : yH.2.2.2.1 a 8 = a + 5 := by
  have h1 : shH a = (1, 9) := h
  show ptC (shH a).2 a 8 = _
  rw [h1]
  rfl
theorem cf0 : ho_F 0 RX0 TX0 tyX0 16 := ⟨rfl, ho_inOf [579, 581, 583, 585, 587, 589, 591, 593, 595, 597, 599, 601, 603, 605, 607, 609] (by decide +kernel), tyX0_ok, nmX0⟩
theorem cf1 : ho_F 1 RX1 TX1 tyX1 9 := ⟨rfl, ho_inOf [632, 634, 636, 638, 640, 642, 644, 646, 648] (by decide +kernel), tyX1_ok, nmX1⟩
theorem cf2 : ho_F 2 RX2 TX2 tyX2 16 := ⟨rfl, ho_inOf [352, 354, 356, 358, 360, 362, 364, 366, 368, 370, 372, 374, 376, 378, 380, 382] (by decide +kernel), tyX2_ok, nmX2⟩
theorem cf3 : ho_F 3 RX3 TX3 tyX3 5 := ⟨rfl, ho_inOf [413, 415, 417, 419, 421] (by decide +kernel), tyX3_ok, nmX3⟩
theorem cf4 : ho_F 4 RX4 TX4 tyX4 3 := ⟨rfl, ho_inOf [287, 289, 291] (by decide +kernel), tyX4_ok, nmX4⟩
theorem cf5 : ho_F 5 RX5 TX5 tyX5 3 := ⟨rfl, ho_inOf [662, 664, 666] (by decide +kernel), tyX5_ok, nmX5⟩
theorem cf6 : ho_F 6 RX6 TX6 tyX6 5 := ⟨rfl, ho_inOf [439, 441, 443, 445, 447] (by decide +kernel), tyX6_ok, nmX6⟩
theorem cf7 : ho_F 7 RX7 TX7 tyX7 3 := ⟨rfl, ho_inOf [400, 402, 404] (by decide +kernel), tyX7_ok, nmX7⟩
theorem cf8 : ho_F 8 RX8 TX8 tyX8 8 := ⟨rfl, ho_inOf [473, 475, 477, 479, 481, 483, 485, 487] (by decide +kernel), tyX8_ok, nmX8⟩
theorem cf9 : ho_F 9 RX9 TX9 tyX9 9 := ⟨rfl, ho_inOf [539, 541, 543, 545, 547, 549, 551, 553, 555] (by decide +kernel), tyX9_ok, nmX9⟩
theorem cf10 : ho_F 10 RX10 TX10 tyX10 11 := ⟨rfl, ho_inOf [245, 247, 249, 251, 253, 255, 257, 259, 261, 263, 265] (by decide +kernel), tyX10_ok, nmX10⟩
theorem cf11 : ho_F 11 RX11 TX11 tyX11 17 := ⟨rfl, ho_inOf [689, 691, 693, 695, 697, 699, 701, 703, 705, 707, 709, 711, 713, 715, 717, 719, 721] (by decide +kernel), tyX11_ok, nmX11⟩
theorem fH_RX0_9 : ho_f yH RX0 0 TX0 16 9 0 2 (.array .int) true := ⟨rfl, by decide, gt_2 (i := 178) (by decide +kernel) rfl, rfl, rfl, by decide +kernel⟩
theorem fH_RX0_15 : ho_f yH RX0 0 TX0 16 15 1 2 (.array .int) true := ⟨rfl, by decide, gt_2 (i := 180) (by decide +kernel) rfl, rfl, rfl, by decide +kernel⟩
theorem fH_RX0_18 : ho_f yH RX0 0 TX0 16 18 2 2 (.array .int) true := ⟨rfl, by decide, gt_2 (i := 182) (by decide +kernel) rfl, rfl, rfl, by decide +kernel⟩
theorem fH_RX0_21 : ho_f yH RX0 0 TX0 16 21 3 2 (.array .int) true := ⟨rfl, by decide, gt_2 (i := 184) (by decide +kernel) rfl, rfl, rfl, by decide +kernel⟩
theorem fH_RX0_24 : ho_f yH RX0 0 TX0 16 24 4 2 (.array .int) true := ⟨rfl, by decide, gt_2 (i := 186) (by decide +kernel) rfl, rfl, rfl, by decide +kernel⟩
theorem fH_RX0_30 : ho_f yH RX0 0 TX0 16 30 6 2 (.object "EmptyHat$State") true := ⟨rfl, by decide, gt_2 (i := 189) (by decide +kernel) rfl, rfl, rfl, by decide +kernel⟩
theorem fH_RX0_34 : ho_f yH RX0 0 TX0 16 34 7 2 (.object "EmptyHat$State") true := ⟨rfl, by decide, gt_2 (i := 190) (by decide +kernel) rfl, rfl, rfl, by decide +kernel⟩
theorem fH_RX0_37 : ho_f yH RX0 0 TX0 16 37 8 2 (.object "EmptyHat$State") true := ⟨rfl, by decide, gt_2 (i := 191) (by decide +kernel) rfl, rfl, rfl, by decide +kernel⟩
theorem fH_RX0_40 : ho_f yH RX0 0 TX0 16 40 9 2 (.object "EmptyHat$State") true := ⟨rfl, by decide, gt_2 (i := 192) (by decide +kernel) rfl, rfl, rfl, by decide +kernel⟩
theorem fH_RX0_43 : ho_f yH RX0 0 TX0 16 43 10 2 (.array .int) true := ⟨rfl, by decide, gt_2 (i := 193) (by decide +kernel) rfl, rfl, rfl, by decide +kernel⟩
theorem fH_RX0_46 : ho_f yH RX0 0 TX0 16 46 11 2 (.array .int) true := ⟨rfl, by decide, gt_2 (i := 194) (by decide +kernel) rfl, rfl, rfl, by decide +kernel⟩
theorem fH_RX0_49 : ho_f yH RX0 0 TX0 16 49 12 2 (.array .int) true := ⟨rfl, by decide, gt_2 (i := 195) (by decide +kernel) rfl, rfl, rfl, by decide +kernel⟩
theorem fH_RX0_52 : ho_f yH RX0 0 TX0 16 52 13 2 (.array .int) true := ⟨rfl, by decide, gt_2 (i := 196) (by decide +kernel) rfl, rfl, rfl, by decide +kernel⟩
theorem fH_RX0_55 : ho_f yH RX0 0 TX0 16 55 14 0 .int false := ⟨rfl, by decide, gt_2 (i := 197) (by decide +kernel) rfl, rfl, rfl, by decide +kernel⟩
theorem fH_RX0_59 : ho_f yH RX0 0 TX0 16 59 15 0 .boolean false := ⟨rfl, by decide, gt_2 (i := 198) (by decide +kernel) rfl, rfl, rfl, by decide +kernel⟩
theorem fH_RX0_63 : ho_f yH RX0 0 TX0 16 63 5 2 (.object "EmptyHat$Stage") true := ⟨rfl, by decide, gt_2 (i := 188) (by decide +kernel) rfl, rfl, rfl, by decide +kernel⟩
theorem fH_RX0_67 : ho_f yH RX0 9 TX9 9 67 0 0 .int false := ⟨rfl, by decide, gt_2 (i := 125) (by decide +kernel) rfl, rfl, rfl, by decide +kernel⟩
theorem fH_RX0_104 : ho_f yH RX0 8 TX8 8 104 1 2 (.array .int) true := ⟨rfl, by decide, gt_2 (i := 81) (by decide +kernel) rfl, rfl, rfl, by decide +kernel⟩
theorem fH_RX0_117 : ho_f yH RX0 9 TX9 9 117 4 2 (.array .int) true := ⟨rfl, by decide, gt_2 (i := 144) (by decide +kernel) rfl, rfl, rfl, by decide +kernel⟩
theorem fH_RX0_126 : ho_f yH RX0 9 TX9 9 126 1 0 .int false := ⟨rfl, by decide, gt_2 (i := 130) (by decide +kernel) rfl, rfl, rfl, by decide +kernel⟩
theorem fH_RX0_129 : ho_f yH RX0 9 TX9 9 129 2 0 .int false := ⟨rfl, by decide, gt_2 (i := 136) (by decide +kernel) rfl, rfl, rfl, by decide +kernel⟩
theorem fH_RX1_9 : ho_f yH RX1 1 TX1 9 9 0 0 .int false := ⟨rfl, by decide, gt_2 (i := 239) (by decide +kernel) rfl, rfl, rfl, by decide +kernel⟩
theorem fH_RX1_15 : ho_f yH RX1 1 TX1 9 15 1 0 .int false := ⟨rfl, by decide, gt_3 (i := 1) (by decide +kernel) rfl, rfl, rfl, by decide +kernel⟩
theorem fH_RX1_18 : ho_f yH RX1 1 TX1 9 18 2 0 .int false := ⟨rfl, by decide, gt_3 (i := 3) (by decide +kernel) rfl, rfl, rfl, by decide +kernel⟩
theorem fH_RX1_21 : ho_f yH RX1 1 TX1 9 21 3 0 .int false := ⟨rfl, by decide, gt_3 (i := 5) (by decide +kernel) rfl, rfl, rfl, by decide +kernel⟩
theorem fH_RX1_24 : ho_f yH RX1 1 TX1 9 24 5 2 (.array .int) true := ⟨rfl, by decide, gt_3 (i := 8) (by decide +kernel) rfl, rfl, rfl, by decide +kernel⟩
theorem fH_RX1_28 : ho_f yH RX1 1 TX1 9 28 6 2 (.array .int) true := ⟨rfl, by decide, gt_3 (i := 9) (by decide +kernel) rfl, rfl, rfl, by decide +kernel⟩
theorem fH_RX1_31 : ho_f yH RX1 1 TX1 9 31 7 2 (.array .int) true := ⟨rfl, by decide, gt_3 (i := 10) (by decide +kernel) rfl, rfl, rfl, by decide +kernel⟩
theorem fH_RX1_36 : ho_f yH RX1 1 TX1 9 36 8 2 (.array (.array .int)) true := ⟨rfl, by decide, gt_3 (i := 11) (by decide +kernel) rfl, rfl, rfl, by decide +kernel⟩
theorem fH_RX1_39 : ho_f yH RX1 1 TX1 9 39 4 2 (.object "EmptyHat$Stage") true := ⟨rfl, by decide, gt_3 (i := 7) (by decide +kernel) rfl, rfl, rfl, by decide +kernel⟩
theorem fH_RX1_43 : ho_f yH RX1 10 TX10 11 43 1 0 .int false := ⟨rfl, by decide, gt_1 (i := 79) (by decide +kernel) rfl, rfl, rfl, by decide +kernel⟩
theorem fH_RX1_48 : ho_f yH RX1 8 TX8 8 48 0 3 (.object "EmptyHat$Crown") false := ⟨rfl, by decide, gt_2 (i := 77) (by decide +kernel) rfl, rfl, rfl, by decide +kernel⟩
theorem fH_RX1_80 : ho_f yH RX1 2 TX2 16 80 5 2 (.array .int) true := ⟨rfl, by decide, gt_1 (i := 175) (by decide +kernel) rfl, rfl, rfl, by decide +kernel⟩
theorem fH_RX1_87 : ho_f yH RX1 8 TX8 8 87 2 2 (.array .int) true := ⟨rfl, by decide, gt_2 (i := 84) (by decide +kernel) rfl, rfl, rfl, by decide +kernel⟩
theorem fH_RX10_9 : ho_f yH RX10 10 TX10 11 9 0 2 (.array .byte) true := ⟨rfl, by decide, gt_1 (i := 77) (by decide +kernel) rfl, rfl, rfl, by decide +kernel⟩
theorem fH_RX10_15 : ho_f yH RX10 10 TX10 11 15 1 0 .int false := ⟨rfl, by decide, gt_1 (i := 78) (by decide +kernel) rfl, rfl, rfl, by decide +kernel⟩
theorem fH_RX10_19 : ho_f yH RX10 10 TX10 11 19 2 0 .int false := ⟨rfl, by decide, gt_1 (i := 82) (by decide +kernel) rfl, rfl, rfl, by decide +kernel⟩
theorem fH_RX10_22 : ho_f yH RX10 10 TX10 11 22 3 0 .int false := ⟨rfl, by decide, gt_1 (i := 84) (by decide +kernel) rfl, rfl, rfl, by decide +kernel⟩
theorem fH_RX10_25 : ho_f yH RX10 10 TX10 11 25 4 0 .int false := ⟨rfl, by decide, gt_1 (i := 86) (by decide +kernel) rfl, rfl, rfl, by decide +kernel⟩
theorem fH_RX10_28 : ho_f yH RX10 10 TX10 11 28 5 0 .int false := ⟨rfl, by decide, gt_1 (i := 90) (by decide +kernel) rfl, rfl, rfl, by decide +kernel⟩
theorem fH_RX10_31 : ho_f yH RX10 10 TX10 11 31 6 0 .int false := ⟨rfl, by decide, gt_1 (i := 94) (by decide +kernel) rfl, rfl, rfl, by decide +kernel⟩
theorem fH_RX10_34 : ho_f yH RX10 10 TX10 11 34 7 0 .int false := ⟨rfl, by decide, gt_1 (i := 98) (by decide +kernel) rfl, rfl, rfl, by decide +kernel⟩
theorem fH_RX10_37 : ho_f yH RX10 10 TX10 11 37 8 0 .int false := ⟨rfl, by decide, gt_1 (i := 100) (by decide +kernel) rfl, rfl, rfl, by decide +kernel⟩
theorem fH_RX10_40 : ho_f yH RX10 10 TX10 11 40 9 0 .int false := ⟨rfl, by decide, gt_1 (i := 103) (by decide +kernel) rfl, rfl, rfl, by decide +kernel⟩
theorem fH_RX10_43 : ho_f yH RX10 10 TX10 11 43 10 2 (.array .int) true := ⟨rfl, by decide, gt_1 (i := 104) (by decide +kernel) rfl, rfl, rfl, by decide +kernel⟩
theorem fH_RX11_10 : ho_f yH RX11 11 TX11 17 10 0 2 (.object "EmptyHat$Text") true := ⟨rfl, by decide, gt_3 (i := 52) (by decide +kernel) rfl, rfl, rfl, by decide +kernel⟩
theorem fH_RX11_19 : ho_f yH RX11 11 TX11 17 19 1 3 (.object "EmptyHat$Crown") false := ⟨rfl, by decide, gt_3 (i := 53) (by decide +kernel) rfl, rfl, rfl, by decide +kernel⟩
theorem fH_RX11_23 : ho_f yH RX11 11 TX11 17 23 2 3 (.object "EmptyHat$Crown") false := ⟨rfl, by decide, gt_3 (i := 54) (by decide +kernel) rfl, rfl, rfl, by decide +kernel⟩
theorem fH_RX11_31 : ho_f yH RX11 11 TX11 17 31 3 2 (.object "EmptyHat$CrownReader") true := ⟨rfl, by decide, gt_3 (i := 55) (by decide +kernel) rfl, rfl, rfl, by decide +kernel⟩
theorem fH_RX11_40 : ho_f yH RX11 11 TX11 17 40 4 2 (.object "EmptyHat$Question") true := ⟨rfl, by decide, gt_3 (i := 56) (by decide +kernel) rfl, rfl, rfl, by decide +kernel⟩
theorem fH_RX11_49 : ho_f yH RX11 11 TX11 17 49 5 2 (.object "EmptyHat$Stage") true := ⟨rfl, by decide, gt_3 (i := 57) (by decide +kernel) rfl, rfl, rfl, by decide +kernel⟩
theorem fH_RX11_58 : ho_f yH RX11 11 TX11 17 58 6 2 (.object "EmptyHat$Ahead") true := ⟨rfl, by decide, gt_3 (i := 58) (by decide +kernel) rfl, rfl, rfl, by decide +kernel⟩
theorem fH_RX11_65 : ho_f yH RX11 11 TX11 17 65 7 2 (.object "EmptyHat$Counted") true := ⟨rfl, by decide, gt_3 (i := 59) (by decide +kernel) rfl, rfl, rfl, by decide +kernel⟩
theorem fH_RX11_72 : ho_f yH RX11 11 TX11 17 72 8 2 (.object "EmptyHat$Image") true := ⟨rfl, by decide, gt_3 (i := 60) (by decide +kernel) rfl, rfl, rfl, by decide +kernel⟩
theorem fH_RX11_79 : ho_f yH RX11 11 TX11 17 79 9 2 (.object "EmptyHat$State") true := ⟨rfl, by decide, gt_3 (i := 61) (by decide +kernel) rfl, rfl, rfl, by decide +kernel⟩
theorem fH_RX11_83 : ho_f yH RX11 11 TX11 17 83 10 2 (.object "EmptyHat$State") true := ⟨rfl, by decide, gt_3 (i := 62) (by decide +kernel) rfl, rfl, rfl, by decide +kernel⟩
theorem fH_RX11_86 : ho_f yH RX11 11 TX11 17 86 11 2 (.array (.object "EmptyHat$State")) true := ⟨rfl, by decide, gt_3 (i := 63) (by decide +kernel) rfl, rfl, rfl, by decide +kernel⟩
theorem fH_RX11_90 : ho_f yH RX11 11 TX11 17 90 12 2 (.array .int) true := ⟨rfl, by decide, gt_3 (i := 64) (by decide +kernel) rfl, rfl, rfl, by decide +kernel⟩
theorem fH_RX11_94 : ho_f yH RX11 11 TX11 17 94 13 0 .boolean false := ⟨rfl, by decide, gt_3 (i := 65) (by decide +kernel) rfl, rfl, rfl, by decide +kernel⟩
theorem fH_RX11_98 : ho_f yH RX11 11 TX11 17 98 14 0 .int false := ⟨rfl, by decide, gt_3 (i := 66) (by decide +kernel) rfl, rfl, rfl, by decide +kernel⟩
theorem fH_RX11_102 : ho_f yH RX11 11 TX11 17 102 15 0 .int false := ⟨rfl, by decide, gt_3 (i := 67) (by decide +kernel) rfl, rfl, rfl, by decide +kernel⟩
theorem fH_RX11_105 : ho_f yH RX11 11 TX11 17 105 16 0 .int false := ⟨rfl, by decide, gt_3 (i := 68) (by decide +kernel) rfl, rfl, rfl, by decide +kernel⟩
theorem fH_RX11_108 : ho_f yH RX11 10 TX10 11 108 1 0 .int false := ⟨rfl, by decide, gt_1 (i := 80) (by decide +kernel) rfl, rfl, rfl, by decide +kernel⟩
theorem fH_RX11_127 : ho_f yH RX11 8 TX8 8 127 0 3 (.object "EmptyHat$Crown") false := ⟨rfl, by decide, gt_2 (i := 79) (by decide +kernel) rfl, rfl, rfl, by decide +kernel⟩
theorem fH_RX11_131 : ho_f yH RX11 1 TX1 9 131 0 0 .int false := ⟨rfl, by decide, gt_3 (i := 0) (by decide +kernel) rfl, rfl, rfl, by decide +kernel⟩
theorem fH_RX11_137 : ho_f yH RX11 3 TX3 5 137 4 0 .int false := ⟨rfl, by decide, gt_2 (i := 32) (by decide +kernel) rfl, rfl, rfl, by decide +kernel⟩
theorem fH_RX11_140 : ho_f yH RX11 10 TX10 11 140 2 0 .int false := ⟨rfl, by decide, gt_1 (i := 83) (by decide +kernel) rfl, rfl, rfl, by decide +kernel⟩
theorem fH_RX11_143 : ho_f yH RX11 10 TX10 11 143 3 0 .int false := ⟨rfl, by decide, gt_1 (i := 85) (by decide +kernel) rfl, rfl, rfl, by decide +kernel⟩
theorem fH_RX11_146 : ho_f yH RX11 2 TX2 16 146 5 2 (.array .int) true := ⟨rfl, by decide, gt_1 (i := 176) (by decide +kernel) rfl, rfl, rfl, by decide +kernel⟩
theorem fH_RX11_149 : ho_f yH RX11 9 TX9 9 149 0 0 .int false := ⟨rfl, by decide, gt_2 (i := 126) (by decide +kernel) rfl, rfl, rfl, by decide +kernel⟩
theorem fH_RX11_152 : ho_f yH RX11 9 TX9 9 152 1 0 .int false := ⟨rfl, by decide, gt_2 (i := 129) (by decide +kernel) rfl, rfl, rfl, by decide +kernel⟩
theorem fH_RX11_155 : ho_f yH RX11 9 TX9 9 155 2 0 .int false := ⟨rfl, by decide, gt_2 (i := 134) (by decide +kernel) rfl, rfl, rfl, by decide +kernel⟩
theorem fH_RX11_170 : ho_f yH RX11 9 TX9 9 170 7 0 .int false := ⟨rfl, by decide, gt_2 (i := 156) (by decide +kernel) rfl, rfl, rfl, by decide +kernel⟩
theorem fH_RX11_177 : ho_f yH RX11 2 TX2 16 177 6 2 (.array (.array .int)) true := ⟨rfl, by decide, gt_1 (i := 179) (by decide +kernel) rfl, rfl, rfl, by decide +kernel⟩
theorem fH_RX11_181 : ho_f yH RX11 9 TX9 9 181 3 2 (.array .int) true := ⟨rfl, by decide, gt_2 (i := 140) (by decide +kernel) rfl, rfl, rfl, by decide +kernel⟩
theorem fH_RX11_184 : ho_f yH RX11 2 TX2 16 184 8 2 (.array .int) true := ⟨rfl, by decide, gt_1 (i := 186) (by decide +kernel) rfl, rfl, rfl, by decide +kernel⟩
theorem fH_RX11_190 : ho_f yH RX11 2 TX2 16 190 9 2 (.array .int) true := ⟨rfl, by decide, gt_1 (i := 190) (by decide +kernel) rfl, rfl, rfl, by decide +kernel⟩
theorem fH_RX11_193 : ho_f yH RX11 2 TX2 16 193 10 2 (.array .int) true := ⟨rfl, by decide, gt_1 (i := 194) (by decide +kernel) rfl, rfl, rfl, by decide +kernel⟩
theorem fH_RX11_196 : ho_f yH RX11 2 TX2 16 196 11 2 (.array .int) true := ⟨rfl, by decide, gt_1 (i := 198) (by decide +kernel) rfl, rfl, rfl, by decide +kernel⟩
theorem fH_RX11_199 : ho_f yH RX11 9 TX9 9 199 4 2 (.array .int) true := ⟨rfl, by decide, gt_2 (i := 145) (by decide +kernel) rfl, rfl, rfl, by decide +kernel⟩
theorem fH_RX11_202 : ho_f yH RX11 9 TX9 9 202 5 2 (.array .int) true := ⟨rfl, by decide, gt_2 (i := 149) (by decide +kernel) rfl, rfl, rfl, by decide +kernel⟩
theorem fH_RX11_209 : ho_f yH RX11 9 TX9 9 209 6 2 (.array .int) true := ⟨rfl, by decide, gt_2 (i := 153) (by decide +kernel) rfl, rfl, rfl, by decide +kernel⟩
theorem fH_RX11_212 : ho_f yH RX11 2 TX2 16 212 13 2 (.array .int) true := ⟨rfl, by decide, gt_1 (i := 205) (by decide +kernel) rfl, rfl, rfl, by decide +kernel⟩
theorem fH_RX11_223 : ho_f yH RX11 9 TX9 9 223 8 2 (.array .int) true := ⟨rfl, by decide, gt_2 (i := 158) (by decide +kernel) rfl, rfl, rfl, by decide +kernel⟩
theorem fH_RX11_239 : ho_f yH RX11 8 TX8 8 239 3 0 .int false := ⟨rfl, by decide, gt_2 (i := 86) (by decide +kernel) rfl, rfl, rfl, by decide +kernel⟩
theorem fH_RX11_242 : ho_f yH RX11 8 TX8 8 242 4 0 .int false := ⟨rfl, by decide, gt_2 (i := 88) (by decide +kernel) rfl, rfl, rfl, by decide +kernel⟩
theorem fH_RX11_245 : ho_f yH RX11 8 TX8 8 245 5 0 .int false := ⟨rfl, by decide, gt_2 (i := 90) (by decide +kernel) rfl, rfl, rfl, by decide +kernel⟩
theorem fH_RX11_258 : ho_f yH RX11 0 TX0 16 258 0 2 (.array .int) true := ⟨rfl, by decide, gt_2 (i := 179) (by decide +kernel) rfl, rfl, rfl, by decide +kernel⟩
theorem fH_RX11_261 : ho_f yH RX11 0 TX0 16 261 1 2 (.array .int) true := ⟨rfl, by decide, gt_2 (i := 181) (by decide +kernel) rfl, rfl, rfl, by decide +kernel⟩
theorem fH_RX11_264 : ho_f yH RX11 0 TX0 16 264 2 2 (.array .int) true := ⟨rfl, by decide, gt_2 (i := 183) (by decide +kernel) rfl, rfl, rfl, by decide +kernel⟩
theorem fH_RX11_267 : ho_f yH RX11 0 TX0 16 267 3 2 (.array .int) true := ⟨rfl, by decide, gt_2 (i := 185) (by decide +kernel) rfl, rfl, rfl, by decide +kernel⟩
theorem fH_RX11_273 : ho_f yH RX11 0 TX0 16 273 4 2 (.array .int) true := ⟨rfl, by decide, gt_2 (i := 187) (by decide +kernel) rfl, rfl, rfl, by decide +kernel⟩
theorem fH_RX11_286 : ho_f yH RX11 1 TX1 9 286 1 0 .int false := ⟨rfl, by decide, gt_3 (i := 2) (by decide +kernel) rfl, rfl, rfl, by decide +kernel⟩
theorem fH_RX11_297 : ho_f yH RX11 1 TX1 9 297 2 0 .int false := ⟨rfl, by decide, gt_3 (i := 4) (by decide +kernel) rfl, rfl, rfl, by decide +kernel⟩
theorem fH_RX11_298 : ho_f yH RX11 1 TX1 9 298 3 0 .int false := ⟨rfl, by decide, gt_3 (i := 6) (by decide +kernel) rfl, rfl, rfl, by decide +kernel⟩
theorem fH_RX11_307 : ho_f yH RX11 8 TX8 8 307 1 2 (.array .int) true := ⟨rfl, by decide, gt_2 (i := 82) (by decide +kernel) rfl, rfl, rfl, by decide +kernel⟩
theorem fH_RX11_321 : ho_f yH RX11 2 TX2 16 321 0 0 .int false := ⟨rfl, by decide, gt_1 (i := 157) (by decide +kernel) rfl, rfl, rfl, by decide +kernel⟩
theorem fH_RX11_344 : ho_f yH RX11 5 TX5 3 344 1 0 .int false := ⟨rfl, by decide, gt_3 (i := 40) (by decide +kernel) rfl, rfl, rfl, by decide +kernel⟩
theorem fH_RX11_345 : ho_f yH RX11 5 TX5 3 345 0 2 (.array .int) true := ⟨rfl, by decide, gt_3 (i := 38) (by decide +kernel) rfl, rfl, rfl, by decide +kernel⟩
theorem fH_RX11_365 : ho_f yH RX11 2 TX2 16 365 4 0 .int false := ⟨rfl, by decide, gt_1 (i := 169) (by decide +kernel) rfl, rfl, rfl, by decide +kernel⟩
theorem fH_RX2_21 : ho_f yH RX2 2 TX2 16 21 3 0 .int false := ⟨rfl, by decide, gt_1 (i := 164) (by decide +kernel) rfl, rfl, rfl, by decide +kernel⟩
theorem fH_RX2_24 : ho_f yH RX2 2 TX2 16 24 4 0 .int false := ⟨rfl, by decide, gt_1 (i := 167) (by decide +kernel) rfl, rfl, rfl, by decide +kernel⟩
theorem fH_RX2_27 : ho_f yH RX2 2 TX2 16 27 5 2 (.array .int) true := ⟨rfl, by decide, gt_1 (i := 170) (by decide +kernel) rfl, rfl, rfl, by decide +kernel⟩
theorem fH_RX2_33 : ho_f yH RX2 2 TX2 16 33 6 2 (.array (.array .int)) true := ⟨rfl, by decide, gt_1 (i := 177) (by decide +kernel) rfl, rfl, rfl, by decide +kernel⟩
theorem fH_RX2_45 : ho_f yH RX2 2 TX2 16 45 10 2 (.array .int) true := ⟨rfl, by decide, gt_1 (i := 191) (by decide +kernel) rfl, rfl, rfl, by decide +kernel⟩
theorem fH_RX2_60 : ho_f yH RX2 2 TX2 16 60 14 2 (.object "EmptyHat$Formula") true := ⟨rfl, by decide, gt_1 (i := 207) (by decide +kernel) rfl, rfl, rfl, by decide +kernel⟩
theorem fH_RX2_64 : ho_f yH RX2 2 TX2 16 64 15 2 (.object "EmptyHat$Formula") true := ⟨rfl, by decide, gt_1 (i := 209) (by decide +kernel) rfl, rfl, rfl, by decide +kernel⟩
theorem fH_RX3_11 : ho_f yH RX3 3 TX3 5 11 3 0 .int false := ⟨rfl, by decide, gt_2 (i := 30) (by decide +kernel) rfl, rfl, rfl, by decide +kernel⟩
theorem fH_RX3_17 : ho_f yH RX3 3 TX3 5 17 4 0 .int false := ⟨rfl, by decide, gt_2 (i := 31) (by decide +kernel) rfl, rfl, rfl, by decide +kernel⟩
theorem fH_RX3_20 : ho_f yH RX3 3 TX3 5 20 0 2 (.object "EmptyHat$Text") true := ⟨rfl, by decide, gt_2 (i := 27) (by decide +kernel) rfl, rfl, rfl, by decide +kernel⟩
theorem fH_RX3_24 : ho_f yH RX3 3 TX3 5 24 2 3 (.object "EmptyHat$Crown") false := ⟨rfl, by decide, gt_2 (i := 29) (by decide +kernel) rfl, rfl, rfl, by decide +kernel⟩
theorem fH_RX3_30 : ho_f yH RX3 2 TX2 16 30 14 2 (.object "EmptyHat$Formula") true := ⟨rfl, by decide, gt_1 (i := 206) (by decide +kernel) rfl, rfl, rfl, by decide +kernel⟩
theorem fH_RX3_39 : ho_f yH RX3 3 TX3 5 39 1 2 (.object "EmptyHat$Reader") true := ⟨rfl, by decide, gt_2 (i := 28) (by decide +kernel) rfl, rfl, rfl, by decide +kernel⟩
theorem fH_RX3_57 : ho_f yH RX3 10 TX10 11 57 4 0 .int false := ⟨rfl, by decide, gt_1 (i := 88) (by decide +kernel) rfl, rfl, rfl, by decide +kernel⟩
theorem fH_RX3_63 : ho_f yH RX3 10 TX10 11 63 5 0 .int false := ⟨rfl, by decide, gt_1 (i := 92) (by decide +kernel) rfl, rfl, rfl, by decide +kernel⟩
theorem fH_RX3_77 : ho_f yH RX3 10 TX10 11 77 8 0 .int false := ⟨rfl, by decide, gt_1 (i := 101) (by decide +kernel) rfl, rfl, rfl, by decide +kernel⟩
theorem fH_RX3_80 : ho_f yH RX3 2 TX2 16 80 0 0 .int false := ⟨rfl, by decide, gt_1 (i := 155) (by decide +kernel) rfl, rfl, rfl, by decide +kernel⟩
theorem fH_RX3_83 : ho_f yH RX3 2 TX2 16 83 1 0 .int false := ⟨rfl, by decide, gt_1 (i := 160) (by decide +kernel) rfl, rfl, rfl, by decide +kernel⟩
theorem fH_RX3_86 : ho_f yH RX3 2 TX2 16 86 2 0 .int false := ⟨rfl, by decide, gt_1 (i := 162) (by decide +kernel) rfl, rfl, rfl, by decide +kernel⟩
theorem fH_RX3_89 : ho_f yH RX3 10 TX10 11 89 6 0 .int false := ⟨rfl, by decide, gt_1 (i := 96) (by decide +kernel) rfl, rfl, rfl, by decide +kernel⟩
theorem fH_RX3_112 : ho_f yH RX3 2 TX2 16 112 15 2 (.object "EmptyHat$Formula") true := ⟨rfl, by decide, gt_1 (i := 210) (by decide +kernel) rfl, rfl, rfl, by decide +kernel⟩
theorem fH_RX3_122 : ho_f yH RX3 2 TX2 16 122 5 2 (.array .int) true := ⟨rfl, by decide, gt_1 (i := 174) (by decide +kernel) rfl, rfl, rfl, by decide +kernel⟩
theorem fH_RX3_132 : ho_f yH RX3 10 TX10 11 132 7 0 .int false := ⟨rfl, by decide, gt_1 (i := 99) (by decide +kernel) rfl, rfl, rfl, by decide +kernel⟩
theorem fH_RX3_139 : ho_f yH RX3 2 TX2 16 139 6 2 (.array (.array .int)) true := ⟨rfl, by decide, gt_1 (i := 178) (by decide +kernel) rfl, rfl, rfl, by decide +kernel⟩
theorem fH_RX3_143 : ho_f yH RX3 2 TX2 16 143 7 2 (.array .int) true := ⟨rfl, by decide, gt_1 (i := 182) (by decide +kernel) rfl, rfl, rfl, by decide +kernel⟩
theorem fH_RX3_146 : ho_f yH RX3 2 TX2 16 146 8 2 (.array .int) true := ⟨rfl, by decide, gt_1 (i := 184) (by decide +kernel) rfl, rfl, rfl, by decide +kernel⟩
theorem fH_RX3_149 : ho_f yH RX3 2 TX2 16 149 9 2 (.array .int) true := ⟨rfl, by decide, gt_1 (i := 189) (by decide +kernel) rfl, rfl, rfl, by decide +kernel⟩
theorem fH_RX3_152 : ho_f yH RX3 2 TX2 16 152 10 2 (.array .int) true := ⟨rfl, by decide, gt_1 (i := 193) (by decide +kernel) rfl, rfl, rfl, by decide +kernel⟩
theorem fH_RX3_155 : ho_f yH RX3 2 TX2 16 155 11 2 (.array .int) true := ⟨rfl, by decide, gt_1 (i := 197) (by decide +kernel) rfl, rfl, rfl, by decide +kernel⟩
theorem fH_RX3_158 : ho_f yH RX3 2 TX2 16 158 12 2 (.array .int) true := ⟨rfl, by decide, gt_1 (i := 201) (by decide +kernel) rfl, rfl, rfl, by decide +kernel⟩
theorem fH_RX3_161 : ho_f yH RX3 2 TX2 16 161 13 2 (.array .int) true := ⟨rfl, by decide, gt_1 (i := 204) (by decide +kernel) rfl, rfl, rfl, by decide +kernel⟩
theorem fH_RX3_164 : ho_f yH RX3 2 TX2 16 164 3 0 .int false := ⟨rfl, by decide, gt_1 (i := 166) (by decide +kernel) rfl, rfl, rfl, by decide +kernel⟩
theorem fH_RX3_167 : ho_f yH RX3 2 TX2 16 167 4 0 .int false := ⟨rfl, by decide, gt_1 (i := 168) (by decide +kernel) rfl, rfl, rfl, by decide +kernel⟩
theorem fH_RX4_11 : ho_f yH RX4 4 TX4 3 11 0 2 (.array .int) true := ⟨rfl, by decide, gt_1 (i := 144) (by decide +kernel) rfl, rfl, rfl, by decide +kernel⟩
theorem fH_RX4_17 : ho_f yH RX4 4 TX4 3 17 1 2 (.array .int) true := ⟨rfl, by decide, gt_1 (i := 145) (by decide +kernel) rfl, rfl, rfl, by decide +kernel⟩
theorem fH_RX4_20 : ho_f yH RX4 4 TX4 3 20 2 0 .int false := ⟨rfl, by decide, gt_1 (i := 146) (by decide +kernel) rfl, rfl, rfl, by decide +kernel⟩
theorem fH_RX5_11 : ho_f yH RX5 5 TX5 3 11 0 2 (.array .int) true := ⟨rfl, by decide, gt_3 (i := 37) (by decide +kernel) rfl, rfl, rfl, by decide +kernel⟩
theorem fH_RX5_15 : ho_f yH RX5 5 TX5 3 15 1 0 .int false := ⟨rfl, by decide, gt_3 (i := 39) (by decide +kernel) rfl, rfl, rfl, by decide +kernel⟩
theorem fH_RX5_19 : ho_f yH RX5 5 TX5 3 19 2 0 .int false := ⟨rfl, by decide, gt_3 (i := 41) (by decide +kernel) rfl, rfl, rfl, by decide +kernel⟩
theorem fH_RX5_22 : ho_f yH RX5 9 TX9 9 22 0 0 .int false := ⟨rfl, by decide, gt_2 (i := 123) (by decide +kernel) rfl, rfl, rfl, by decide +kernel⟩
theorem fH_RX5_31 : ho_f yH RX5 9 TX9 9 31 1 0 .int false := ⟨rfl, by decide, gt_2 (i := 128) (by decide +kernel) rfl, rfl, rfl, by decide +kernel⟩
theorem fH_RX5_34 : ho_f yH RX5 9 TX9 9 34 2 0 .int false := ⟨rfl, by decide, gt_2 (i := 133) (by decide +kernel) rfl, rfl, rfl, by decide +kernel⟩
theorem fH_RX5_37 : ho_f yH RX5 2 TX2 16 37 5 2 (.array .int) true := ⟨rfl, by decide, gt_1 (i := 171) (by decide +kernel) rfl, rfl, rfl, by decide +kernel⟩
theorem fH_RX5_42 : ho_f yH RX5 9 TX9 9 42 3 2 (.array .int) true := ⟨rfl, by decide, gt_2 (i := 138) (by decide +kernel) rfl, rfl, rfl, by decide +kernel⟩
theorem fH_RX5_45 : ho_f yH RX5 9 TX9 9 45 4 2 (.array .int) true := ⟨rfl, by decide, gt_2 (i := 143) (by decide +kernel) rfl, rfl, rfl, by decide +kernel⟩
theorem fH_RX5_48 : ho_f yH RX5 9 TX9 9 48 5 2 (.array .int) true := ⟨rfl, by decide, gt_2 (i := 147) (by decide +kernel) rfl, rfl, rfl, by decide +kernel⟩
theorem fH_RX5_51 : ho_f yH RX5 9 TX9 9 51 6 2 (.array .int) true := ⟨rfl, by decide, gt_2 (i := 151) (by decide +kernel) rfl, rfl, rfl, by decide +kernel⟩
theorem fH_RX5_54 : ho_f yH RX5 10 TX10 11 54 1 0 .int false := ⟨rfl, by decide, gt_1 (i := 81) (by decide +kernel) rfl, rfl, rfl, by decide +kernel⟩
theorem fH_RX5_66 : ho_f yH RX5 9 TX9 9 66 7 0 .int false := ⟨rfl, by decide, gt_2 (i := 155) (by decide +kernel) rfl, rfl, rfl, by decide +kernel⟩
theorem fH_RX6_14 : ho_f yH RX6 6 TX6 5 14 2 2 (.object "EmptyHat$Formula") true := ⟨rfl, by decide, gt_2 (i := 56) (by decide +kernel) rfl, rfl, rfl, by decide +kernel⟩
theorem fH_RX6_20 : ho_f yH RX6 6 TX6 5 20 3 2 (.array .int) true := ⟨rfl, by decide, gt_2 (i := 57) (by decide +kernel) rfl, rfl, rfl, by decide +kernel⟩
theorem fH_RX6_24 : ho_f yH RX6 6 TX6 5 24 4 0 .int false := ⟨rfl, by decide, gt_2 (i := 58) (by decide +kernel) rfl, rfl, rfl, by decide +kernel⟩
theorem fH_RX6_28 : ho_f yH RX6 6 TX6 5 28 0 2 (.object "EmptyHat$Text") true := ⟨rfl, by decide, gt_2 (i := 54) (by decide +kernel) rfl, rfl, rfl, by decide +kernel⟩
theorem fH_RX6_37 : ho_f yH RX6 6 TX6 5 37 1 2 (.object "EmptyHat$Reader") true := ⟨rfl, by decide, gt_2 (i := 55) (by decide +kernel) rfl, rfl, rfl, by decide +kernel⟩
theorem fH_RX6_44 : ho_f yH RX6 10 TX10 11 44 4 0 .int false := ⟨rfl, by decide, gt_1 (i := 87) (by decide +kernel) rfl, rfl, rfl, by decide +kernel⟩
theorem fH_RX6_47 : ho_f yH RX6 10 TX10 11 47 6 0 .int false := ⟨rfl, by decide, gt_1 (i := 95) (by decide +kernel) rfl, rfl, rfl, by decide +kernel⟩
theorem fH_RX6_50 : ho_f yH RX6 10 TX10 11 50 5 0 .int false := ⟨rfl, by decide, gt_1 (i := 91) (by decide +kernel) rfl, rfl, rfl, by decide +kernel⟩
theorem fH_RX6_70 : ho_f yH RX6 8 TX8 8 70 0 3 (.object "EmptyHat$Crown") false := ⟨rfl, by decide, gt_2 (i := 78) (by decide +kernel) rfl, rfl, rfl, by decide +kernel⟩
theorem fH_RX6_76 : ho_f yH RX6 2 TX2 16 76 5 2 (.array .int) true := ⟨rfl, by decide, gt_1 (i := 173) (by decide +kernel) rfl, rfl, rfl, by decide +kernel⟩
theorem fH_RX7_9 : ho_f yH RX7 7 TX7 3 9 2 0 .int false := ⟨rfl, by decide, gt_2 (i := 19) (by decide +kernel) rfl, rfl, rfl, by decide +kernel⟩
theorem fH_RX7_15 : ho_f yH RX7 7 TX7 3 15 0 2 (.object "EmptyHat$Text") true := ⟨rfl, by decide, gt_2 (i := 17) (by decide +kernel) rfl, rfl, rfl, by decide +kernel⟩
theorem fH_RX7_19 : ho_f yH RX7 7 TX7 3 19 1 3 (.object "EmptyHat$Formula") false := ⟨rfl, by decide, gt_2 (i := 18) (by decide +kernel) rfl, rfl, rfl, by decide +kernel⟩
theorem fH_RX7_70 : ho_f yH RX7 10 TX10 11 70 5 0 .int false := ⟨rfl, by decide, gt_1 (i := 93) (by decide +kernel) rfl, rfl, rfl, by decide +kernel⟩
theorem fH_RX7_83 : ho_f yH RX7 10 TX10 11 83 4 0 .int false := ⟨rfl, by decide, gt_1 (i := 89) (by decide +kernel) rfl, rfl, rfl, by decide +kernel⟩
theorem fH_RX7_89 : ho_f yH RX7 10 TX10 11 89 8 0 .int false := ⟨rfl, by decide, gt_1 (i := 102) (by decide +kernel) rfl, rfl, rfl, by decide +kernel⟩
theorem fH_RX7_99 : ho_f yH RX7 10 TX10 11 99 6 0 .int false := ⟨rfl, by decide, gt_1 (i := 97) (by decide +kernel) rfl, rfl, rfl, by decide +kernel⟩
theorem fH_RX8_9 : ho_f yH RX8 8 TX8 8 9 1 2 (.array .int) true := ⟨rfl, by decide, gt_2 (i := 80) (by decide +kernel) rfl, rfl, rfl, by decide +kernel⟩
theorem fH_RX8_15 : ho_f yH RX8 8 TX8 8 15 2 2 (.array .int) true := ⟨rfl, by decide, gt_2 (i := 83) (by decide +kernel) rfl, rfl, rfl, by decide +kernel⟩
theorem fH_RX8_18 : ho_f yH RX8 8 TX8 8 18 3 0 .int false := ⟨rfl, by decide, gt_2 (i := 85) (by decide +kernel) rfl, rfl, rfl, by decide +kernel⟩
theorem fH_RX8_22 : ho_f yH RX8 8 TX8 8 22 4 0 .int false := ⟨rfl, by decide, gt_2 (i := 87) (by decide +kernel) rfl, rfl, rfl, by decide +kernel⟩
theorem fH_RX8_25 : ho_f yH RX8 8 TX8 8 25 5 0 .int false := ⟨rfl, by decide, gt_2 (i := 89) (by decide +kernel) rfl, rfl, rfl, by decide +kernel⟩
theorem fH_RX8_30 : ho_f yH RX8 8 TX8 8 30 6 2 (.array .int) true := ⟨rfl, by decide, gt_2 (i := 91) (by decide +kernel) rfl, rfl, rfl, by decide +kernel⟩
theorem fH_RX8_33 : ho_f yH RX8 8 TX8 8 33 7 2 (.array .int) true := ⟨rfl, by decide, gt_2 (i := 92) (by decide +kernel) rfl, rfl, rfl, by decide +kernel⟩
theorem fH_RX8_36 : ho_f yH RX8 8 TX8 8 36 0 3 (.object "EmptyHat$Crown") false := ⟨rfl, by decide, gt_2 (i := 76) (by decide +kernel) rfl, rfl, rfl, by decide +kernel⟩
theorem fH_RX8_42 : ho_f yH RX8 2 TX2 16 42 11 2 (.array .int) true := ⟨rfl, by decide, gt_1 (i := 196) (by decide +kernel) rfl, rfl, rfl, by decide +kernel⟩
theorem fH_RX8_47 : ho_f yH RX8 9 TX9 9 47 4 2 (.array .int) true := ⟨rfl, by decide, gt_2 (i := 142) (by decide +kernel) rfl, rfl, rfl, by decide +kernel⟩
theorem fH_RX8_52 : ho_f yH RX8 9 TX9 9 52 0 0 .int false := ⟨rfl, by decide, gt_2 (i := 124) (by decide +kernel) rfl, rfl, rfl, by decide +kernel⟩
theorem fH_RX8_55 : ho_f yH RX8 2 TX2 16 55 13 2 (.array .int) true := ⟨rfl, by decide, gt_1 (i := 203) (by decide +kernel) rfl, rfl, rfl, by decide +kernel⟩
theorem fH_RX8_58 : ho_f yH RX8 2 TX2 16 58 14 2 (.object "EmptyHat$Formula") true := ⟨rfl, by decide, gt_1 (i := 208) (by decide +kernel) rfl, rfl, rfl, by decide +kernel⟩
theorem fH_RX8_75 : ho_f yH RX8 2 TX2 16 75 5 2 (.array .int) true := ⟨rfl, by decide, gt_1 (i := 172) (by decide +kernel) rfl, rfl, rfl, by decide +kernel⟩
theorem fH_RX8_78 : ho_f yH RX8 9 TX9 9 78 6 2 (.array .int) true := ⟨rfl, by decide, gt_2 (i := 152) (by decide +kernel) rfl, rfl, rfl, by decide +kernel⟩
theorem fH_RX8_93 : ho_f yH RX8 2 TX2 16 93 9 2 (.array .int) true := ⟨rfl, by decide, gt_1 (i := 188) (by decide +kernel) rfl, rfl, rfl, by decide +kernel⟩
theorem fH_RX8_96 : ho_f yH RX8 9 TX9 9 96 5 2 (.array .int) true := ⟨rfl, by decide, gt_2 (i := 148) (by decide +kernel) rfl, rfl, rfl, by decide +kernel⟩
theorem fH_RX8_99 : ho_f yH RX8 9 TX9 9 99 3 2 (.array .int) true := ⟨rfl, by decide, gt_2 (i := 139) (by decide +kernel) rfl, rfl, rfl, by decide +kernel⟩
theorem fH_RX8_102 : ho_f yH RX8 2 TX2 16 102 10 2 (.array .int) true := ⟨rfl, by decide, gt_1 (i := 192) (by decide +kernel) rfl, rfl, rfl, by decide +kernel⟩
theorem fH_RX8_105 : ho_f yH RX8 9 TX9 9 105 2 0 .int false := ⟨rfl, by decide, gt_2 (i := 135) (by decide +kernel) rfl, rfl, rfl, by decide +kernel⟩
theorem fH_RX8_112 : ho_f yH RX8 2 TX2 16 112 8 2 (.array .int) true := ⟨rfl, by decide, gt_1 (i := 185) (by decide +kernel) rfl, rfl, rfl, by decide +kernel⟩
theorem fH_RX8_133 : ho_f yH RX8 2 TX2 16 133 0 0 .int false := ⟨rfl, by decide, gt_1 (i := 156) (by decide +kernel) rfl, rfl, rfl, by decide +kernel⟩
theorem fH_RX8_162 : ho_f yH RX8 2 TX2 16 162 15 2 (.object "EmptyHat$Formula") true := ⟨rfl, by decide, gt_1 (i := 211) (by decide +kernel) rfl, rfl, rfl, by decide +kernel⟩
theorem fH_RX8_169 : ho_f yH RX8 9 TX9 9 169 1 0 .int false := ⟨rfl, by decide, gt_2 (i := 131) (by decide +kernel) rfl, rfl, rfl, by decide +kernel⟩
theorem fH_RX8_173 : ho_f yH RX8 2 TX2 16 173 2 0 .int false := ⟨rfl, by decide, gt_1 (i := 163) (by decide +kernel) rfl, rfl, rfl, by decide +kernel⟩
theorem fH_RX9_9 : ho_f yH RX9 9 TX9 9 9 0 0 .int false := ⟨rfl, by decide, gt_2 (i := 122) (by decide +kernel) rfl, rfl, rfl, by decide +kernel⟩
theorem fH_RX9_15 : ho_f yH RX9 9 TX9 9 15 1 0 .int false := ⟨rfl, by decide, gt_2 (i := 127) (by decide +kernel) rfl, rfl, rfl, by decide +kernel⟩
theorem fH_RX9_18 : ho_f yH RX9 9 TX9 9 18 2 0 .int false := ⟨rfl, by decide, gt_2 (i := 132) (by decide +kernel) rfl, rfl, rfl, by decide +kernel⟩
theorem fH_RX9_21 : ho_f yH RX9 9 TX9 9 21 3 2 (.array .int) true := ⟨rfl, by decide, gt_2 (i := 137) (by decide +kernel) rfl, rfl, rfl, by decide +kernel⟩
theorem fH_RX9_25 : ho_f yH RX9 9 TX9 9 25 4 2 (.array .int) true := ⟨rfl, by decide, gt_2 (i := 141) (by decide +kernel) rfl, rfl, rfl, by decide +kernel⟩
theorem fH_RX9_28 : ho_f yH RX9 9 TX9 9 28 5 2 (.array .int) true := ⟨rfl, by decide, gt_2 (i := 146) (by decide +kernel) rfl, rfl, rfl, by decide +kernel⟩
theorem fH_RX9_31 : ho_f yH RX9 9 TX9 9 31 6 2 (.array .int) true := ⟨rfl, by decide, gt_2 (i := 150) (by decide +kernel) rfl, rfl, rfl, by decide +kernel⟩
theorem fH_RX9_34 : ho_f yH RX9 9 TX9 9 34 7 0 .int false := ⟨rfl, by decide, gt_2 (i := 154) (by decide +kernel) rfl, rfl, rfl, by decide +kernel⟩
theorem fH_RX9_37 : ho_f yH RX9 9 TX9 9 37 8 2 (.array .int) true := ⟨rfl, by decide, gt_2 (i := 157) (by decide +kernel) rfl, rfl, rfl, by decide +kernel⟩
theorem fH_RX9_40 : ho_f yH RX9 2 TX2 16 40 1 0 .int false := ⟨rfl, by decide, gt_1 (i := 159) (by decide +kernel) rfl, rfl, rfl, by decide +kernel⟩
theorem fH_RX9_43 : ho_f yH RX9 2 TX2 16 43 3 0 .int false := ⟨rfl, by decide, gt_1 (i := 165) (by decide +kernel) rfl, rfl, rfl, by decide +kernel⟩
theorem fH_RX9_48 : ho_f yH RX9 2 TX2 16 48 7 2 (.array .int) true := ⟨rfl, by decide, gt_1 (i := 181) (by decide +kernel) rfl, rfl, rfl, by decide +kernel⟩
theorem fH_RX9_55 : ho_f yH RX9 2 TX2 16 55 12 2 (.array .int) true := ⟨rfl, by decide, gt_1 (i := 200) (by decide +kernel) rfl, rfl, rfl, by decide +kernel⟩
theorem kc_RJ6_265 : Cond.constant RJ6 265 (1431655765) ∈ gw := gt_4 (i := 70) (by decide +kernel) rfl
theorem kc_RJ6_266 : Cond.constant RJ6 266 (858993459) ∈ gw := gt_4 (i := 71) (by decide +kernel) rfl
theorem kc_RJ6_267 : Cond.constant RJ6 267 (252645135) ∈ gw := gt_4 (i := 72) (by decide +kernel) rfl
theorem kc_RX0_93 : Cond.constant RX0 93 (100000) ∈ gw := gt_5 (i := 22) (by decide +kernel) rfl
theorem kc_RX11_331 : Cond.constantLong RX11 331 (-1000000000000000) ∈ gw := gt_5 (i := 162) (by decide +kernel) rfl
theorem kc_RX11_374 : Cond.constantLong RX11 374 (1103515245) ∈ gw := gt_5 (i := 146) (by decide +kernel) rfl
theorem kc_RX11_376 : Cond.constantLong RX11 376 (12345) ∈ gw := gt_5 (i := 147) (by decide +kernel) rfl
theorem kc_RX11_378 : Cond.constantLong RX11 378 (2147483647) ∈ gw := gt_5 (i := 148) (by decide +kernel) rfl
theorem kc_RX3_107 : Cond.constant RX3 107 (199936) ∈ gw := gt_3 (i := 225) (by decide +kernel) rfl
theorem kc_RX3_115 : Cond.constant RX3 115 (213312) ∈ gw := gt_4 (i := 26) (by decide +kernel) rfl
theorem kc_RX4_52 : Cond.constantLong RX4 52 (-1000000) ∈ gw := gt_4 (i := 127) (by decide +kernel) rfl
theorem kc_RX4_54 : Cond.constantLong RX4 54 (1000000) ∈ gw := gt_4 (i := 128) (by decide +kernel) rfl
theorem kc_RX5_65 : Cond.constant RX5 65 (99999) ∈ gw := gt_6 (i := 1) (by decide +kernel) rfl
theorem kc_RX6_60 : Cond.constant RX6 60 (8323392) ∈ gw := gt_5 (i := 170) (by decide +kernel) rfl
theorem kc_RX6_68 : Cond.constantLong RX6 68 (-1) ∈ gw := gt_5 (i := 196) (by decide +kernel) rfl
theorem kc_RX8_172 : Cond.constant RX8 172 (99999) ∈ gw := gt_4 (i := 239) (by decide +kernel) rfl
theorem yv_X9_seenThrough : ho_yV yX9_seenThrough cX9_seenThrough 3 (some .int) 0 := ⟨⟨gt_4 (i := 66) rfl rfl, gt_1 (i := 14) (by decide +kernel) rfl, by decide +kernel⟩, gt_4 (i := 64) (by decide +kernel) rfl, gt_4 (i := 65) (by decide +kernel) rfl⟩
theorem yv_X9_allStores : ho_yV yX9_allStores cX9_allStores 3 (some .int) 0 := ⟨⟨gt_4 (i := 76) rfl rfl, gt_1 (i := 14) (by decide +kernel) rfl, by decide +kernel⟩, gt_4 (i := 74) (by decide +kernel) rfl, gt_4 (i := 75) (by decide +kernel) rfl⟩
theorem ys_J9_min_7cf53 : ho_yS yJ9_min_7cf53 cJ9_min_7cf53 2 (some .int) 2 := ⟨⟨gt_4 (i := 131) rfl rfl, gt_1 (i := 21) (by decide +kernel) rfl, by decide +kernel⟩, gt_4 (i := 130) (by decide +kernel) rfl⟩
theorem ys_X4_factAt : ho_yS yX4_factAt cX4_factAt 2 (some .int) 2 := ⟨⟨gt_4 (i := 108) rfl rfl, gt_1 (i := 8) (by decide +kernel) rfl, by decide +kernel⟩, gt_4 (i := 107) (by decide +kernel) rfl⟩
theorem ys_J9_floorDiv_f86c9 : ho_yS yJ9_floorDiv_f86c9 cJ9_floorDiv_f86c9 6 (some .long) 2 := ⟨⟨gt_4 (i := 117) rfl rfl, gt_1 (i := 21) (by decide +kernel) rfl, by decide +kernel⟩, gt_4 (i := 116) (by decide +kernel) rfl⟩
theorem ys_J9_min_f86c9 : ho_yS yJ9_min_f86c9 cJ9_min_f86c9 4 (some .long) 2 := ⟨⟨gt_4 (i := 120) rfl rfl, gt_1 (i := 21) (by decide +kernel) rfl, by decide +kernel⟩, gt_4 (i := 119) (by decide +kernel) rfl⟩
theorem ys_J9_max_f86c9 : ho_yS yJ9_max_f86c9 cJ9_max_f86c9 4 (some .long) 2 := ⟨⟨gt_4 (i := 123) rfl rfl, gt_1 (i := 21) (by decide +kernel) rfl, by decide +kernel⟩, gt_4 (i := 122) (by decide +kernel) rfl⟩
theorem ys_X4_joined : ho_yS yX4_joined cX4_joined 5 (some .long) 3 := ⟨⟨gt_4 (i := 114) rfl rfl, gt_1 (i := 8) (by decide +kernel) rfl, by decide +kernel⟩, gt_4 (i := 113) (by decide +kernel) rfl⟩
theorem ys_X4_bounded : ho_yS yX4_bounded cX4_bounded 2 (some .int) 1 := ⟨⟨gt_4 (i := 126) rfl rfl, gt_1 (i := 8) (by decide +kernel) rfl, by decide +kernel⟩, gt_4 (i := 125) (by decide +kernel) rfl⟩
theorem ys_X4_single : ho_yS yX4_single cX4_single 3 (some .int) 3 := ⟨⟨gt_4 (i := 111) rfl rfl, gt_1 (i := 8) (by decide +kernel) rfl, by decide +kernel⟩, gt_4 (i := 110) (by decide +kernel) rfl⟩
theorem yv_X4_value : ho_yV yX4_value cX4_value 5 (some .int) 1 := ⟨⟨gt_4 (i := 105) rfl rfl, gt_1 (i := 8) (by decide +kernel) rfl, by decide +kernel⟩, gt_4 (i := 103) (by decide +kernel) rfl, gt_4 (i := 104) (by decide +kernel) rfl⟩
theorem ys_J9_max_7cf53 : ho_yS yJ9_max_7cf53 cJ9_max_7cf53 2 (some .int) 2 := ⟨⟨gt_4 (i := 134) rfl rfl, gt_1 (i := 21) (by decide +kernel) rfl, by decide +kernel⟩, gt_4 (i := 133) (by decide +kernel) rfl⟩
theorem yv_X8_showable : ho_yV yX8_showable cX8_showable 2 (some .int) 1 := ⟨⟨gt_4 (i := 171) rfl rfl, gt_1 (i := 12) (by decide +kernel) rfl, by decide +kernel⟩, gt_4 (i := 169) (by decide +kernel) rfl, gt_4 (i := 170) (by decide +kernel) rfl⟩
theorem yv_X8_glimpse : ho_yV yX8_glimpse cX8_glimpse 5 (some .int) 4 := ⟨⟨gt_4 (i := 101) rfl rfl, gt_1 (i := 12) (by decide +kernel) rfl, by decide +kernel⟩, gt_4 (i := 99) (by decide +kernel) rfl, gt_4 (i := 100) (by decide +kernel) rfl⟩
theorem ys_J6_bitCount_0f7a4 : ho_yS yJ6_bitCount_0f7a4 cJ6_bitCount_0f7a4 1 (some .int) 1 := ⟨⟨gt_4 (i := 69) rfl rfl, gt_1 (i := 20) (by decide +kernel) rfl, by decide +kernel⟩, gt_4 (i := 68) (by decide +kernel) rfl⟩
theorem yv_X8_takeAll : ho_yV yX8_takeAll cX8_takeAll 7 (some .int) 2 := ⟨⟨gt_4 (i := 180) rfl rfl, gt_1 (i := 12) (by decide +kernel) rfl, by decide +kernel⟩, gt_4 (i := 178) (by decide +kernel) rfl, gt_4 (i := 179) (by decide +kernel) rfl⟩
theorem yv_X8_sightOfShow : ho_yV yX8_sightOfShow cX8_sightOfShow 4 (some .int) 1 := ⟨⟨gt_4 (i := 185) rfl rfl, gt_1 (i := 12) (by decide +kernel) rfl, by decide +kernel⟩, gt_4 (i := 184) (by decide +kernel) rfl, gw_of (i := 21) (by decide +kernel) rfl⟩
theorem yv_X8_isBetter : ho_yV yX8_isBetter cX8_isBetter 5 (some .boolean) 3 := ⟨⟨gt_4 (i := 189) rfl rfl, gt_1 (i := 12) (by decide +kernel) rfl, by decide +kernel⟩, gt_4 (i := 188) (by decide +kernel) rfl, gw_of (i := 22) (by decide +kernel) rfl⟩
theorem yv_X9_keep : ho_yV yX9_keep cX9_keep 3 none 1 := ⟨⟨gt_4 (i := 234) rfl rfl, gt_1 (i := 14) (by decide +kernel) rfl, by decide +kernel⟩, gt_4 (i := 232) (by decide +kernel) rfl, gt_4 (i := 233) (by decide +kernel) rfl⟩
theorem yv_X8_loseBelief : ho_yV yX8_loseBelief cX8_loseBelief 5 none 2 := ⟨⟨gt_4 (i := 230) rfl rfl, gt_1 (i := 12) (by decide +kernel) rfl, by decide +kernel⟩, gt_4 (i := 229) (by decide +kernel) rfl, gw_of (i := 25) (by decide +kernel) rfl⟩
theorem yv_X8_pay : ho_yV yX8_pay cX8_pay 4 none 2 := ⟨⟨gt_4 (i := 238) rfl rfl, gt_1 (i := 12) (by decide +kernel) rfl, by decide +kernel⟩, gt_4 (i := 237) (by decide +kernel) rfl, gw_of (i := 26) (by decide +kernel) rfl⟩
theorem yv_X8_ripen : ho_yV yX8_ripen cX8_ripen 3 none 1 := ⟨⟨gt_4 (i := 163) rfl rfl, gt_1 (i := 12) (by decide +kernel) rfl, by decide +kernel⟩, gt_4 (i := 161) (by decide +kernel) rfl, gt_4 (i := 162) (by decide +kernel) rfl⟩
theorem yv_X8_lookAtAll : ho_yV yX8_lookAtAll cX8_lookAtAll 5 none 1 := ⟨⟨gt_4 (i := 167) rfl rfl, gt_1 (i := 12) (by decide +kernel) rfl, by decide +kernel⟩, gt_4 (i := 165) (by decide +kernel) rfl, gt_4 (i := 166) (by decide +kernel) rfl⟩
theorem yv_X8_choose : ho_yV yX8_choose cX8_choose 6 none 1 := ⟨⟨gt_4 (i := 176) rfl rfl, gt_1 (i := 12) (by decide +kernel) rfl, by decide +kernel⟩, gt_4 (i := 174) (by decide +kernel) rfl, gt_4 (i := 175) (by decide +kernel) rfl⟩
theorem yv_X8_give : ho_yV yX8_give cX8_give 7 (some .int) 3 := ⟨⟨gt_4 (i := 226) rfl rfl, gt_1 (i := 12) (by decide +kernel) rfl, by decide +kernel⟩, gt_4 (i := 224) (by decide +kernel) rfl, gt_4 (i := 225) (by decide +kernel) rfl⟩
theorem yv_X8_passYear : ho_yV yX8_passYear cX8_passYear 2 (some .int) 1 := ⟨⟨gt_4 (i := 219) rfl rfl, gt_1 (i := 12) (by decide +kernel) rfl, by decide +kernel⟩, gt_4 (i := 217) (by decide +kernel) rfl, gt_4 (i := 218) (by decide +kernel) rfl⟩
theorem yv_X0_note : ho_yV yX0_note cX0_note 2 none 1 := ⟨⟨gt_4 (i := 213) rfl rfl, gt_1 (i := 13) (by decide +kernel) rfl, by decide +kernel⟩, gt_4 (i := 212) (by decide +kernel) rfl, gw_of (i := 24) (by decide +kernel) rfl⟩
theorem yv_X9_copy : ho_yV yX9_copy cX9_copy 2 none 1 := ⟨⟨gt_4 (i := 159) rfl rfl, gt_1 (i := 14) (by decide +kernel) rfl, by decide +kernel⟩, gt_4 (i := 157) (by decide +kernel) rfl, gt_4 (i := 158) (by decide +kernel) rfl⟩
theorem yv_X8_sightOfTrick : ho_yV yX8_sightOfTrick cX8_sightOfTrick 5 (some .int) 2 := ⟨⟨gt_4 (i := 97) rfl rfl, gt_1 (i := 12) (by decide +kernel) rfl, by decide +kernel⟩, gt_4 (i := 95) (by decide +kernel) rfl, gt_4 (i := 96) (by decide +kernel) rfl⟩
theorem yv_X0_lookAhead : ho_yV yX0_lookAhead cX0_lookAhead 3 none 1 := ⟨⟨gt_5 (i := 17) rfl rfl, gt_1 (i := 13) (by decide +kernel) rfl, by decide +kernel⟩, gt_5 (i := 16) (by decide +kernel) rfl, gw_of (i := 27) (by decide +kernel) rfl⟩
theorem yv_X0_pairWith : ho_yV yX0_pairWith cX0_pairWith 4 none 1 := ⟨⟨gt_5 (i := 27) rfl rfl, gt_1 (i := 13) (by decide +kernel) rfl, by decide +kernel⟩, gt_5 (i := 26) (by decide +kernel) rfl, gw_of (i := 28) (by decide +kernel) rfl⟩
theorem yv_X10_byteAt : ho_yV yX10_byteAt cX10_byteAt 2 (some .int) 1 := ⟨⟨gt_5 (i := 47) rfl rfl, gt_1 (i := 2) (by decide +kernel) rfl, by decide +kernel⟩, gt_5 (i := 45) (by decide +kernel) rfl, gt_5 (i := 46) (by decide +kernel) rfl⟩
theorem yv_X2_holds : ho_yV yX2_holds cX2_holds 3 (some .boolean) 2 := ⟨⟨gt_4 (i := 42) rfl rfl, gt_1 (i := 7) (by decide +kernel) rfl, by decide +kernel⟩, gt_4 (i := 40) (by decide +kernel) rfl, gt_4 (i := 41) (by decide +kernel) rfl⟩
theorem yv_X1_isSo : ho_yV yX1_isSo cX1_isSo 2 (some .boolean) 0 := ⟨⟨gt_5 (i := 66) rfl rfl, gt_1 (i := 15) (by decide +kernel) rfl, by decide +kernel⟩, gt_5 (i := 65) (by decide +kernel) rfl, gw_of (i := 30) (by decide +kernel) rfl⟩
theorem yv_X1_addFitting : ho_yV yX1_addFitting cX1_addFitting 3 none 1 := ⟨⟨gt_5 (i := 70) rfl rfl, gt_1 (i := 15) (by decide +kernel) rfl, by decide +kernel⟩, gt_5 (i := 69) (by decide +kernel) rfl, gw_of (i := 31) (by decide +kernel) rfl⟩
theorem yv_X1_mostLeft : ho_yV yX1_mostLeft cX1_mostLeft 6 (some .int) 1 := ⟨⟨gt_5 (i := 90) rfl rfl, gt_1 (i := 15) (by decide +kernel) rfl, by decide +kernel⟩, gt_5 (i := 89) (by decide +kernel) rfl, gw_of (i := 32) (by decide +kernel) rfl⟩
theorem ys_J7_fill_53178 : ho_yS yJ7_fill_53178 cJ7_fill_53178 4 none 2 := ⟨⟨gt_3 (i := 138) rfl rfl, gt_1 (i := 18) (by decide +kernel) rfl, by decide +kernel⟩, gt_3 (i := 137) (by decide +kernel) rfl⟩
theorem yv_X4_clear : ho_yV yX4_clear cX4_clear 1 none 0 := ⟨⟨gt_3 (i := 142) rfl rfl, gt_1 (i := 8) (by decide +kernel) rfl, by decide +kernel⟩, gt_3 (i := 140) (by decide +kernel) rfl, gt_3 (i := 141) (by decide +kernel) rfl⟩
theorem yv_X4_add : ho_yV yX4_add cX4_add 2 none 1 := ⟨⟨gt_3 (i := 146) rfl rfl, gt_1 (i := 8) (by decide +kernel) rfl, by decide +kernel⟩, gt_3 (i := 144) (by decide +kernel) rfl, gt_3 (i := 145) (by decide +kernel) rfl⟩
theorem yv_X10_readDigits : ho_yV yX10_readDigits cX10_readDigits 1 none 0 := ⟨⟨gt_3 (i := 162) rfl rfl, gt_1 (i := 2) (by decide +kernel) rfl, by decide +kernel⟩, gt_3 (i := 161) (by decide +kernel) rfl, gw_of (i := 3) (by decide +kernel) rfl⟩
theorem yv_X10_readWord : ho_yV yX10_readWord cX10_readWord 2 none 0 := ⟨⟨gt_3 (i := 158) rfl rfl, gt_1 (i := 2) (by decide +kernel) rfl, by decide +kernel⟩, gt_3 (i := 157) (by decide +kernel) rfl, gw_of (i := 2) (by decide +kernel) rfl⟩
theorem yv_X10_next : ho_yV yX10_next cX10_next 4 none 0 := ⟨⟨gt_3 (i := 154) rfl rfl, gt_1 (i := 2) (by decide +kernel) rfl, by decide +kernel⟩, gt_3 (i := 152) (by decide +kernel) rfl, gt_3 (i := 153) (by decide +kernel) rfl⟩
theorem yv_X10_isWord : ho_yV yX10_isWord cX10_isWord 2 (some .boolean) 1 := ⟨⟨gt_3 (i := 174) rfl rfl, gt_1 (i := 2) (by decide +kernel) rfl, by decide +kernel⟩, gt_3 (i := 172) (by decide +kernel) rfl, gt_3 (i := 173) (by decide +kernel) rfl⟩
theorem yv_X10_wrong : ho_yV yX10_wrong cX10_wrong 3 (some .boolean) 2 := ⟨⟨gt_3 (i := 178) rfl rfl, gt_1 (i := 2) (by decide +kernel) rfl, by decide +kernel⟩, gt_3 (i := 176) (by decide +kernel) rfl, gt_3 (i := 177) (by decide +kernel) rfl⟩
theorem yv_X10_takeWord : ho_yV yX10_takeWord cX10_takeWord 2 (some .boolean) 1 := ⟨⟨gt_3 (i := 170) rfl rfl, gt_1 (i := 2) (by decide +kernel) rfl, by decide +kernel⟩, gt_3 (i := 168) (by decide +kernel) rfl, gt_3 (i := 169) (by decide +kernel) rfl⟩
theorem yv_X10_takeNumber : ho_yV yX10_takeNumber cX10_takeNumber 3 (some .boolean) 2 := ⟨⟨gt_3 (i := 182) rfl rfl, gt_1 (i := 2) (by decide +kernel) rfl, by decide +kernel⟩, gt_3 (i := 180) (by decide +kernel) rfl, gt_3 (i := 181) (by decide +kernel) rfl⟩
theorem yv_X10_isSign : ho_yV yX10_isSign cX10_isSign 2 (some .boolean) 1 := ⟨⟨gt_3 (i := 190) rfl rfl, gt_1 (i := 2) (by decide +kernel) rfl, by decide +kernel⟩, gt_3 (i := 188) (by decide +kernel) rfl, gt_3 (i := 189) (by decide +kernel) rfl⟩
theorem yv_X10_nameHere : ho_yV yX10_nameHere cX10_nameHere 1 (some .boolean) 0 := ⟨⟨gt_3 (i := 204) rfl rfl, gt_1 (i := 2) (by decide +kernel) rfl, by decide +kernel⟩, gt_3 (i := 202) (by decide +kernel) rfl, gt_3 (i := 203) (by decide +kernel) rfl⟩
theorem yv_X2_numberOf : ho_yV yX2_numberOf cX2_numberOf 4 (some .int) 2 := ⟨⟨gt_3 (i := 208) rfl rfl, gt_1 (i := 7) (by decide +kernel) rfl, by decide +kernel⟩, gt_3 (i := 206) (by decide +kernel) rfl, gt_3 (i := 207) (by decide +kernel) rfl⟩
theorem yv_X7_facts : ho_yV yX7_facts cX7_facts 3 (some .boolean) 1 := ⟨⟨gt_5 (i := 182) rfl rfl, gt_1 (i := 10) (by decide +kernel) rfl, by decide +kernel⟩, gt_5 (i := 181) (by decide +kernel) rfl, gw_of (i := 39) (by decide +kernel) rfl⟩
theorem yv_X7_fact : ho_yV yX7_fact cX7_fact 2 (some .boolean) 1 := ⟨⟨gt_5 (i := 186) rfl rfl, gt_1 (i := 10) (by decide +kernel) rfl, by decide +kernel⟩, gt_5 (i := 185) (by decide +kernel) rfl, gw_of (i := 40) (by decide +kernel) rfl⟩
theorem yv_X7_compared : ho_yV yX7_compared cX7_compared 3 (some .boolean) 1 := ⟨⟨gt_5 (i := 190) rfl rfl, gt_1 (i := 10) (by decide +kernel) rfl, by decide +kernel⟩, gt_5 (i := 189) (by decide +kernel) rfl, gw_of (i := 41) (by decide +kernel) rfl⟩
theorem yv_X7_opens : ho_yV yX7_opens cX7_opens 2 (some .boolean) 1 := ⟨⟨gt_4 (i := 13) rfl rfl, gt_1 (i := 10) (by decide +kernel) rfl, by decide +kernel⟩, gt_4 (i := 12) (by decide +kernel) rfl, gw_of (i := 15) (by decide +kernel) rfl⟩
theorem yv_X7_test : ho_yV yX7_test cX7_test 3 (some .boolean) 1 := ⟨⟨gt_5 (i := 178) rfl rfl, gt_1 (i := 10) (by decide +kernel) rfl, by decide +kernel⟩, gt_5 (i := 177) (by decide +kernel) rfl, gw_of (i := 38) (by decide +kernel) rfl⟩
theorem yv_X10_takeSign : ho_yV yX10_takeSign cX10_takeSign 2 (some .boolean) 1 := ⟨⟨gt_3 (i := 186) rfl rfl, gt_1 (i := 2) (by decide +kernel) rfl, by decide +kernel⟩, gt_3 (i := 184) (by decide +kernel) rfl, gt_3 (i := 185) (by decide +kernel) rfl⟩
theorem yv_X7_sum : ho_yV yX7_sum cX7_sum 4 (some .boolean) 1 := ⟨⟨gt_3 (i := 238) rfl rfl, gt_1 (i := 10) (by decide +kernel) rfl, by decide +kernel⟩, gt_3 (i := 237) (by decide +kernel) rfl, gw_of (i := 12) (by decide +kernel) rfl⟩
theorem yv_X7_product : ho_yV yX7_product cX7_product 4 (some .boolean) 1 := ⟨⟨gt_4 (i := 2) rfl rfl, gt_1 (i := 10) (by decide +kernel) rfl, by decide +kernel⟩, gt_4 (i := 1) (by decide +kernel) rfl, gw_of (i := 13) (by decide +kernel) rfl⟩
theorem yv_X7_part : ho_yV yX7_part cX7_part 2 (some .boolean) 1 := ⟨⟨gt_4 (i := 6) rfl rfl, gt_1 (i := 10) (by decide +kernel) rfl, by decide +kernel⟩, gt_4 (i := 5) (by decide +kernel) rfl, gw_of (i := 14) (by decide +kernel) rfl⟩
theorem yv_X7_oneOfTwo : ho_yV yX7_oneOfTwo cX7_oneOfTwo 3 (some .boolean) 1 := ⟨⟨gt_4 (i := 21) rfl rfl, gt_1 (i := 10) (by decide +kernel) rfl, by decide +kernel⟩, gt_4 (i := 20) (by decide +kernel) rfl, gw_of (i := 16) (by decide +kernel) rfl⟩
theorem yv_X7_isPart : ho_yV yX7_isPart cX7_isPart 1 (some .boolean) 0 := ⟨⟨gt_4 (i := 25) rfl rfl, gt_1 (i := 10) (by decide +kernel) rfl, by decide +kernel⟩, gt_4 (i := 24) (by decide +kernel) rfl, gw_of (i := 17) (by decide +kernel) rfl⟩
theorem yv_X7_aim : ho_yV yX7_aim cX7_aim 3 none 2 := ⟨⟨gt_3 (i := 233) rfl rfl, gt_1 (i := 10) (by decide +kernel) rfl, by decide +kernel⟩, gt_3 (i := 232) (by decide +kernel) rfl, gw_of (i := 11) (by decide +kernel) rfl⟩
theorem yv_X3_oneMore : ho_yV yX3_oneMore cX3_oneMore 5 (some .boolean) 2 := ⟨⟨gt_3 (i := 199) rfl rfl, gt_1 (i := 9) (by decide +kernel) rfl, by decide +kernel⟩, gt_3 (i := 198) (by decide +kernel) rfl, gw_of (i := 6) (by decide +kernel) rfl⟩
theorem yv_X3_newProvince : ho_yV yX3_newProvince cX3_newProvince 2 (some .boolean) 0 := ⟨⟨gt_3 (i := 212) rfl rfl, gt_1 (i := 9) (by decide +kernel) rfl, by decide +kernel⟩, gt_3 (i := 211) (by decide +kernel) rfl, gw_of (i := 7) (by decide +kernel) rfl⟩
theorem yv_X3_newTrick : ho_yV yX3_newTrick cX3_newTrick 3 (some .boolean) 0 := ⟨⟨gt_3 (i := 216) rfl rfl, gt_1 (i := 9) (by decide +kernel) rfl, by decide +kernel⟩, gt_3 (i := 215) (by decide +kernel) rfl, gw_of (i := 8) (by decide +kernel) rfl⟩
theorem yv_X3_newWatcher : ho_yV yX3_newWatcher cX3_newWatcher 2 (some .boolean) 0 := ⟨⟨gt_3 (i := 220) rfl rfl, gt_1 (i := 9) (by decide +kernel) rfl, by decide +kernel⟩, gt_3 (i := 219) (by decide +kernel) rfl, gw_of (i := 9) (by decide +kernel) rfl⟩
theorem yv_X3_onlyOne : ho_yV yX3_onlyOne cX3_onlyOne 2 (some .boolean) 0 := ⟨⟨gt_3 (i := 224) rfl rfl, gt_1 (i := 9) (by decide +kernel) rfl, by decide +kernel⟩, gt_3 (i := 223) (by decide +kernel) rfl, gw_of (i := 10) (by decide +kernel) rfl⟩
theorem yv_X7_readSum : ho_yV yX7_readSum cX7_readSum 3 (some .boolean) 2 := ⟨⟨gt_3 (i := 229) rfl rfl, gt_1 (i := 10) (by decide +kernel) rfl, by decide +kernel⟩, gt_3 (i := 227) (by decide +kernel) rfl, gt_3 (i := 228) (by decide +kernel) rfl⟩
theorem yv_X3_beliefAtFirst : ho_yV yX3_beliefAtFirst cX3_beliefAtFirst 1 (some .boolean) 0 := ⟨⟨gt_4 (i := 30) rfl rfl, gt_1 (i := 9) (by decide +kernel) rfl, by decide +kernel⟩, gt_4 (i := 29) (by decide +kernel) rfl, gw_of (i := 18) (by decide +kernel) rfl⟩
theorem yv_X3_boysOfHundred : ho_yV yX3_boysOfHundred cX3_boysOfHundred 1 (some .boolean) 0 := ⟨⟨gt_4 (i := 34) rfl rfl, gt_1 (i := 9) (by decide +kernel) rfl, by decide +kernel⟩, gt_4 (i := 33) (by decide +kernel) rfl, gw_of (i := 19) (by decide +kernel) rfl⟩
theorem yv_X2_clear : ho_yV yX2_clear cX2_clear 1 none 0 := ⟨⟨gt_3 (i := 135) rfl rfl, gt_1 (i := 7) (by decide +kernel) rfl, by decide +kernel⟩, gt_3 (i := 133) (by decide +kernel) rfl, gt_3 (i := 134) (by decide +kernel) rfl⟩
theorem yv_X10_begin : ho_yV yX10_begin cX10_begin 1 none 0 := ⟨⟨gt_3 (i := 150) rfl rfl, gt_1 (i := 2) (by decide +kernel) rfl, by decide +kernel⟩, gt_3 (i := 148) (by decide +kernel) rfl, gt_3 (i := 149) (by decide +kernel) rfl⟩
theorem yv_X3_treasury : ho_yV yX3_treasury cX3_treasury 1 (some .boolean) 0 := ⟨⟨gt_3 (i := 166) rfl rfl, gt_1 (i := 9) (by decide +kernel) rfl, by decide +kernel⟩, gt_3 (i := 165) (by decide +kernel) rfl, gw_of (i := 4) (by decide +kernel) rfl⟩
theorem yv_X3_statement : ho_yV yX3_statement cX3_statement 1 (some .boolean) 0 := ⟨⟨gt_3 (i := 194) rfl rfl, gt_1 (i := 9) (by decide +kernel) rfl, by decide +kernel⟩, gt_3 (i := 193) (by decide +kernel) rfl, gw_of (i := 5) (by decide +kernel) rfl⟩
theorem yv_X5_put : ho_yV yX5_put cX5_put 4 none 2 := ⟨⟨gt_5 (i := 220) rfl rfl, gt_1 (i := 16) (by decide +kernel) rfl, by decide +kernel⟩, gt_5 (i := 219) (by decide +kernel) rfl, gw_of (i := 43) (by decide +kernel) rfl⟩
theorem ys_X5_isChecked : ho_yS yX5_isChecked cX5_isChecked 3 (some .boolean) 1 := ⟨⟨gt_5 (i := 235) rfl rfl, gt_1 (i := 16) (by decide +kernel) rfl, by decide +kernel⟩, gt_5 (i := 234) (by decide +kernel) rfl⟩
theorem yv_X5_take : ho_yV yX5_take cX5_take 5 (some .int) 2 := ⟨⟨gt_6 (i := 0) rfl rfl, gt_1 (i := 16) (by decide +kernel) rfl, by decide +kernel⟩, gt_5 (i := 239) (by decide +kernel) rfl, gw_of (i := 44) (by decide +kernel) rfl⟩
theorem yv_X7_readTest : ho_yV yX7_readTest cX7_readTest 3 (some .boolean) 2 := ⟨⟨gt_5 (i := 174) rfl rfl, gt_1 (i := 10) (by decide +kernel) rfl, by decide +kernel⟩, gt_5 (i := 172) (by decide +kernel) rfl, gt_5 (i := 173) (by decide +kernel) rfl⟩
theorem yv_X8_describe : ho_yV yX8_describe cX8_describe 7 none 3 := ⟨⟨gt_5 (i := 200) rfl rfl, gt_1 (i := 12) (by decide +kernel) rfl, by decide +kernel⟩, gt_5 (i := 198) (by decide +kernel) rfl, gt_5 (i := 199) (by decide +kernel) rfl⟩
theorem yv_X6_with : ho_yV yX6_with cX6_with 5 (some .long) 3 := ⟨⟨gt_5 (i := 206) rfl rfl, gt_1 (i := 11) (by decide +kernel) rfl, by decide +kernel⟩, gt_5 (i := 205) (by decide +kernel) rfl, gw_of (i := 42) (by decide +kernel) rfl⟩
theorem yv_X8_seenByAny : ho_yV yX8_seenByAny cX8_seenByAny 4 (some .int) 1 := ⟨⟨gt_5 (i := 103) rfl rfl, gt_1 (i := 12) (by decide +kernel) rfl, by decide +kernel⟩, gt_5 (i := 102) (by decide +kernel) rfl, gw_of (i := 33) (by decide +kernel) rfl⟩
theorem yv_X10_append : ho_yV yX10_append cX10_append 3 none 1 := ⟨⟨gt_3 (i := 115) rfl rfl, gt_1 (i := 2) (by decide +kernel) rfl, by decide +kernel⟩, gt_3 (i := 113) (by decide +kernel) rfl, gt_3 (i := 114) (by decide +kernel) rfl⟩
theorem yv_X11_refuse : ho_yV yX11_refuse cX11_refuse 2 (some .int) 1 := ⟨⟨gt_3 (i := 111) rfl rfl, gt_1 (i := 1) (by decide +kernel) rfl, by decide +kernel⟩, gt_3 (i := 110) (by decide +kernel) rfl, gw_of (i := 0) (by decide +kernel) rfl⟩
theorem yv_X11_refuses : ho_yV yX11_refuses cX11_refuses 2 (some .boolean) 1 := ⟨⟨gt_3 (i := 123) rfl rfl, gt_1 (i := 1) (by decide +kernel) rfl, by decide +kernel⟩, gt_3 (i := 122) (by decide +kernel) rfl, gw_of (i := 1) (by decide +kernel) rfl⟩
theorem yv_X0_forget : ho_yV yX0_forget cX0_forget 1 none 0 := ⟨⟨gt_4 (i := 54) rfl rfl, gt_1 (i := 13) (by decide +kernel) rfl, by decide +kernel⟩, gt_4 (i := 52) (by decide +kernel) rfl, gt_4 (i := 53) (by decide +kernel) rfl⟩
theorem yv_X3_readInto : ho_yV yX3_readInto cX3_readInto 2 (some .boolean) 1 := ⟨⟨gt_3 (i := 131) rfl rfl, gt_1 (i := 9) (by decide +kernel) rfl, by decide +kernel⟩, gt_3 (i := 129) (by decide +kernel) rfl, gt_3 (i := 130) (by decide +kernel) rfl⟩
theorem yv_X9_startOf : ho_yV yX9_startOf cX9_startOf 3 none 1 := ⟨⟨gt_4 (i := 38) rfl rfl, gt_1 (i := 14) (by decide +kernel) rfl, by decide +kernel⟩, gt_4 (i := 36) (by decide +kernel) rfl, gt_4 (i := 37) (by decide +kernel) rfl⟩
theorem yv_X11_forgetPast : ho_yV yX11_forgetPast cX11_forgetPast 1 none 0 := ⟨⟨gt_4 (i := 50) rfl rfl, gt_1 (i := 1) (by decide +kernel) rfl, by decide +kernel⟩, gt_4 (i := 49) (by decide +kernel) rfl, gw_of (i := 20) (by decide +kernel) rfl⟩
theorem yv_X2_tricksFrom : ho_yV yX2_tricksFrom cX2_tricksFrom 4 (some .int) 1 := ⟨⟨gt_4 (i := 89) rfl rfl, gt_1 (i := 7) (by decide +kernel) rfl, by decide +kernel⟩, gt_4 (i := 87) (by decide +kernel) rfl, gt_4 (i := 88) (by decide +kernel) rfl⟩
theorem yv_X8_sightFrom : ho_yV yX8_sightFrom cX8_sightFrom 6 (some .int) 3 := ⟨⟨gt_4 (i := 142) rfl rfl, gt_1 (i := 12) (by decide +kernel) rfl, by decide +kernel⟩, gt_4 (i := 140) (by decide +kernel) rfl, gt_4 (i := 141) (by decide +kernel) rfl⟩
theorem yv_X11_canGive : ho_yV yX11_canGive cX11_canGive 2 (some .boolean) 1 := ⟨⟨gt_4 (i := 198) rfl rfl, gt_1 (i := 1) (by decide +kernel) rfl, by decide +kernel⟩, gt_4 (i := 197) (by decide +kernel) rfl, gw_of (i := 23) (by decide +kernel) rfl⟩
theorem yv_X0_reach : ho_yV yX0_reach cX0_reach 4 (some .boolean) 2 := ⟨⟨gt_4 (i := 208) rfl rfl, gt_1 (i := 13) (by decide +kernel) rfl, by decide +kernel⟩, gt_4 (i := 206) (by decide +kernel) rfl, gt_4 (i := 207) (by decide +kernel) rfl⟩
theorem yv_X0_findPair : ho_yV yX0_findPair cX0_findPair 4 none 1 := ⟨⟨gt_5 (i := 11) rfl rfl, gt_1 (i := 13) (by decide +kernel) rfl, by decide +kernel⟩, gt_5 (i := 9) (by decide +kernel) rfl, gt_5 (i := 10) (by decide +kernel) rfl⟩
theorem yv_X0_worth : ho_yV yX0_worth cX0_worth 2 (some .int) 1 := ⟨⟨gt_5 (i := 35) rfl rfl, gt_1 (i := 13) (by decide +kernel) rfl, by decide +kernel⟩, gt_5 (i := 33) (by decide +kernel) rfl, gt_5 (i := 34) (by decide +kernel) rfl⟩
theorem yv_X1_readFrom : ho_yV yX1_readFrom cX1_readFrom 4 (some .boolean) 1 := ⟨⟨gt_5 (i := 43) rfl rfl, gt_1 (i := 15) (by decide +kernel) rfl, by decide +kernel⟩, gt_5 (i := 41) (by decide +kernel) rfl, gt_5 (i := 42) (by decide +kernel) rfl⟩
theorem yv_X1_find : ho_yV yX1_find cX1_find 4 none 1 := ⟨⟨gt_5 (i := 60) rfl rfl, gt_1 (i := 15) (by decide +kernel) rfl, by decide +kernel⟩, gt_5 (i := 58) (by decide +kernel) rfl, gt_5 (i := 59) (by decide +kernel) rfl⟩
theorem yv_X11_findCounted : ho_yV yX11_findCounted cX11_findCounted 1 none 0 := ⟨⟨gt_5 (i := 56) rfl rfl, gt_1 (i := 1) (by decide +kernel) rfl, by decide +kernel⟩, gt_5 (i := 55) (by decide +kernel) rfl, gw_of (i := 29) (by decide +kernel) rfl⟩
theorem yv_X1_inAll : ho_yV yX1_inAll cX1_inAll 3 (some .int) 0 := ⟨⟨gt_5 (i := 74) rfl rfl, gt_1 (i := 15) (by decide +kernel) rfl, by decide +kernel⟩, gt_5 (i := 72) (by decide +kernel) rfl, gt_5 (i := 73) (by decide +kernel) rfl⟩
theorem yv_X1_inSome : ho_yV yX1_inSome cX1_inSome 3 (some .int) 0 := ⟨⟨gt_5 (i := 78) rfl rfl, gt_1 (i := 15) (by decide +kernel) rfl, by decide +kernel⟩, gt_5 (i := 76) (by decide +kernel) rfl, gt_5 (i := 77) (by decide +kernel) rfl⟩
theorem yv_X1_choose : ho_yV yX1_choose cX1_choose 3 none 0 := ⟨⟨gt_5 (i := 86) rfl rfl, gt_1 (i := 15) (by decide +kernel) rfl, by decide +kernel⟩, gt_5 (i := 84) (by decide +kernel) rfl, gt_5 (i := 85) (by decide +kernel) rfl⟩
theorem yv_X8_fewestWatchers : ho_yV yX8_fewestWatchers cX8_fewestWatchers 8 (some .int) 2 := ⟨⟨gt_5 (i := 99) rfl rfl, gt_1 (i := 12) (by decide +kernel) rfl, by decide +kernel⟩, gt_5 (i := 97) (by decide +kernel) rfl, gt_5 (i := 98) (by decide +kernel) rfl⟩
theorem yv_X11_remember : ho_yV yX11_remember cX11_remember 1 none 0 := ⟨⟨gt_5 (i := 115) rfl rfl, gt_1 (i := 1) (by decide +kernel) rfl, by decide +kernel⟩, gt_5 (i := 114) (by decide +kernel) rfl, gw_of (i := 34) (by decide +kernel) rfl⟩
theorem yv_X11_canPass : ho_yV yX11_canPass cX11_canPass 2 (some .boolean) 1 := ⟨⟨gt_5 (i := 132) rfl rfl, gt_1 (i := 1) (by decide +kernel) rfl, by decide +kernel⟩, gt_5 (i := 131) (by decide +kernel) rfl, gw_of (i := 35) (by decide +kernel) rfl⟩
theorem yv_X11_draw : ho_yV yX11_draw cX11_draw 2 (some .int) 1 := ⟨⟨gt_5 (i := 145) rfl rfl, gt_1 (i := 1) (by decide +kernel) rfl, by decide +kernel⟩, gt_5 (i := 144) (by decide +kernel) rfl, gw_of (i := 37) (by decide +kernel) rfl⟩
theorem yv_X11_boyTells : ho_yV yX11_boyTells cX11_boyTells 3 (some .boolean) 0 := ⟨⟨gt_5 (i := 141) rfl rfl, gt_1 (i := 1) (by decide +kernel) rfl, by decide +kernel⟩, gt_5 (i := 140) (by decide +kernel) rfl, gw_of (i := 36) (by decide +kernel) rfl⟩
theorem yv_X6_readAll : ho_yV yX6_readAll cX6_readAll 2 (some .boolean) 0 := ⟨⟨gt_5 (i := 166) rfl rfl, gt_1 (i := 11) (by decide +kernel) rfl, by decide +kernel⟩, gt_5 (i := 164) (by decide +kernel) rfl, gt_5 (i := 165) (by decide +kernel) rfl⟩
theorem yv_X6_answer : ho_yV yX6_answer cX6_answer 6 (some .long) 2 := ⟨⟨gt_5 (i := 195) rfl rfl, gt_1 (i := 11) (by decide +kernel) rfl, by decide +kernel⟩, gt_5 (i := 193) (by decide +kernel) rfl, gt_5 (i := 194) (by decide +kernel) rfl⟩
theorem yv_X5_write : ho_yV yX5_write cX5_write 5 none 2 := ⟨⟨gt_5 (i := 216) rfl rfl, gt_1 (i := 16) (by decide +kernel) rfl, by decide +kernel⟩, gt_5 (i := 214) (by decide +kernel) rfl, gt_5 (i := 215) (by decide +kernel) rfl⟩
theorem yv_X5_read : ho_yV yX5_read cX5_read 5 none 3 := ⟨⟨gt_6 (i := 5) rfl rfl, gt_1 (i := 16) (by decide +kernel) rfl, by decide +kernel⟩, gt_6 (i := 3) (by decide +kernel) rfl, gt_6 (i := 4) (by decide +kernel) rfl⟩
theorem yv_X5_readable : ho_yV yX5_readable cX5_readable 7 (some .boolean) 2 := ⟨⟨gt_5 (i := 232) rfl rfl, gt_1 (i := 16) (by decide +kernel) rfl, by decide +kernel⟩, gt_5 (i := 230) (by decide +kernel) rfl, gt_5 (i := 231) (by decide +kernel) rfl⟩
theorem lk_RX0_101 : Cond.methodLink RX0 101 yX8_lookAtAll ∈ gw := gt_5 (i := 18) (by decide +kernel) rfl
theorem lk_RX0_113 : Cond.methodLink RX0 113 yX8_sightOfTrick ∈ gw := gt_5 (i := 20) (by decide +kernel) rfl
theorem lk_RX0_120 : Cond.methodLink RX0 120 yJ9_min_7cf53 ∈ gw := gt_5 (i := 21) (by decide +kernel) rfl
theorem lk_RX0_132 : Cond.methodLink RX0 132 yX9_seenThrough ∈ gw := gt_4 (i := 214) (by decide +kernel) rfl
theorem lk_RX0_136 : Cond.methodLink RX0 136 yX9_allStores ∈ gw := gt_4 (i := 215) (by decide +kernel) rfl
theorem lk_RX0_70 : Cond.methodLink RX0 70 yX9_copy ∈ gw := gt_4 (i := 209) (by decide +kernel) rfl
theorem lk_RX0_74 : Cond.methodLink RX0 74 yX0_note ∈ gw := gt_4 (i := 210) (by decide +kernel) rfl
theorem lk_RX0_78 : Cond.methodLink RX0 78 yX8_passYear ∈ gw := gt_4 (i := 216) (by decide +kernel) rfl
theorem lk_RX0_84 : Cond.methodLink RX0 84 yX8_ripen ∈ gw := gt_5 (i := 12) (by decide +kernel) rfl
theorem lk_RX0_87 : Cond.methodLink RX0 87 yX8_showable ∈ gw := gt_5 (i := 13) (by decide +kernel) rfl
theorem lk_RX0_90 : Cond.methodLink RX0 90 yX0_lookAhead ∈ gw := gt_5 (i := 14) (by decide +kernel) rfl
theorem lk_RX0_94 : Cond.methodLink RX0 94 yX8_give ∈ gw := gt_5 (i := 23) (by decide +kernel) rfl
theorem lk_RX0_98 : Cond.methodLink RX0 98 yX0_pairWith ∈ gw := gt_5 (i := 24) (by decide +kernel) rfl
theorem lk_RX10_55 : Cond.methodLink RX10 55 yX10_next ∈ gw := gt_3 (i := 151) (by decide +kernel) rfl
theorem lk_RX10_58 : Cond.methodLink RX10 58 yX10_readWord ∈ gw := gt_3 (i := 155) (by decide +kernel) rfl
theorem lk_RX10_61 : Cond.methodLink RX10 61 yX10_readDigits ∈ gw := gt_3 (i := 159) (by decide +kernel) rfl
theorem lk_RX10_64 : Cond.methodLink RX10 64 yX10_isWord ∈ gw := gt_3 (i := 171) (by decide +kernel) rfl
theorem lk_RX10_68 : Cond.methodLink RX10 68 yX10_wrong ∈ gw := gt_3 (i := 175) (by decide +kernel) rfl
theorem lk_RX10_72 : Cond.methodLink RX10 72 yX10_isSign ∈ gw := gt_3 (i := 187) (by decide +kernel) rfl
theorem lk_RX11_111 : Cond.methodLink RX11 111 yX11_refuse ∈ gw := gt_3 (i := 108) (by decide +kernel) rfl
theorem lk_RX11_115 : Cond.methodLink RX11 115 yX10_append ∈ gw := gt_3 (i := 112) (by decide +kernel) rfl
theorem lk_RX11_119 : Cond.methodLink RX11 119 yX11_refuses ∈ gw := gt_3 (i := 120) (by decide +kernel) rfl
theorem lk_RX11_123 : Cond.methodLink RX11 123 yX3_readInto ∈ gw := gt_3 (i := 128) (by decide +kernel) rfl
theorem lk_RX11_128 : Cond.methodLink RX11 128 yX9_startOf ∈ gw := gt_4 (i := 35) (by decide +kernel) rfl
theorem lk_RX11_134 : Cond.methodLink RX11 134 yX11_forgetPast ∈ gw := gt_4 (i := 47) (by decide +kernel) rfl
theorem lk_RX11_158 : Cond.methodLink RX11 158 yX9_seenThrough ∈ gw := gt_4 (i := 63) (by decide +kernel) rfl
theorem lk_RX11_162 : Cond.methodLink RX11 162 yJ6_bitCount_0f7a4 ∈ gw := gt_4 (i := 67) (by decide +kernel) rfl
theorem lk_RX11_167 : Cond.methodLink RX11 167 yX9_allStores ∈ gw := gt_4 (i := 73) (by decide +kernel) rfl
theorem lk_RX11_173 : Cond.methodLink RX11 173 yX2_holds ∈ gw := gt_4 (i := 81) (by decide +kernel) rfl
theorem lk_RX11_187 : Cond.methodLink RX11 187 yX2_tricksFrom ∈ gw := gt_4 (i := 86) (by decide +kernel) rfl
theorem lk_RX11_205 : Cond.methodLink RX11 205 yX8_sightOfTrick ∈ gw := gt_4 (i := 94) (by decide +kernel) rfl
theorem lk_RX11_215 : Cond.methodLink RX11 215 yX8_sightFrom ∈ gw := gt_4 (i := 139) (by decide +kernel) rfl
theorem lk_RX11_219 : Cond.methodLink RX11 219 yX8_glimpse ∈ gw := gt_4 (i := 147) (by decide +kernel) rfl
theorem lk_RX11_226 : Cond.methodLink RX11 226 yX9_copy ∈ gw := gt_4 (i := 156) (by decide +kernel) rfl
theorem lk_RX11_230 : Cond.methodLink RX11 230 yX8_ripen ∈ gw := gt_4 (i := 160) (by decide +kernel) rfl
theorem lk_RX11_233 : Cond.methodLink RX11 233 yX8_lookAtAll ∈ gw := gt_4 (i := 164) (by decide +kernel) rfl
theorem lk_RX11_236 : Cond.methodLink RX11 236 yX8_choose ∈ gw := gt_4 (i := 173) (by decide +kernel) rfl
theorem lk_RX11_248 : Cond.methodLink RX11 248 yX11_canGive ∈ gw := gt_4 (i := 195) (by decide +kernel) rfl
theorem lk_RX11_251 : Cond.methodLink RX11 251 yX8_takeAll ∈ gw := gt_4 (i := 200) (by decide +kernel) rfl
theorem lk_RX11_254 : Cond.methodLink RX11 254 yX0_reach ∈ gw := gt_4 (i := 205) (by decide +kernel) rfl
theorem lk_RX11_270 : Cond.methodLink RX11 270 yX0_findPair ∈ gw := gt_5 (i := 8) (by decide +kernel) rfl
theorem lk_RX11_276 : Cond.methodLink RX11 276 yX0_worth ∈ gw := gt_5 (i := 32) (by decide +kernel) rfl
theorem lk_RX11_279 : Cond.methodLink RX11 279 yX1_readFrom ∈ gw := gt_5 (i := 40) (by decide +kernel) rfl
theorem lk_RX11_283 : Cond.methodLink RX11 283 yX11_findCounted ∈ gw := gt_5 (i := 53) (by decide +kernel) rfl
theorem lk_RX11_289 : Cond.methodLink RX11 289 yX1_inAll ∈ gw := gt_5 (i := 71) (by decide +kernel) rfl
theorem lk_RX11_292 : Cond.methodLink RX11 292 yX1_inSome ∈ gw := gt_5 (i := 75) (by decide +kernel) rfl
theorem lk_RX11_295 : Cond.methodLink RX11 295 yX1_choose ∈ gw := gt_5 (i := 83) (by decide +kernel) rfl
theorem lk_RX11_301 : Cond.methodLink RX11 301 yX8_fewestWatchers ∈ gw := gt_5 (i := 96) (by decide +kernel) rfl
theorem lk_RX11_304 : Cond.methodLink RX11 304 yX11_remember ∈ gw := gt_5 (i := 112) (by decide +kernel) rfl
theorem lk_RX11_310 : Cond.methodLink RX11 310 yX8_give ∈ gw := gt_5 (i := 116) (by decide +kernel) rfl
theorem lk_RX11_314 : Cond.methodLink RX11 314 yX11_canPass ∈ gw := gt_5 (i := 129) (by decide +kernel) rfl
theorem lk_RX11_317 : Cond.methodLink RX11 317 yX8_passYear ∈ gw := gt_5 (i := 133) (by decide +kernel) rfl
theorem lk_RX11_324 : Cond.methodLink RX11 324 yX11_boyTells ∈ gw := gt_5 (i := 138) (by decide +kernel) rfl
theorem lk_RX11_328 : Cond.methodLink RX11 328 yX0_forget ∈ gw := gt_4 (i := 51) (by decide +kernel) rfl
theorem lk_RX11_333 : Cond.methodLink RX11 333 yX6_readAll ∈ gw := gt_5 (i := 163) (by decide +kernel) rfl
theorem lk_RX11_336 : Cond.methodLink RX11 336 yX6_answer ∈ gw := gt_5 (i := 192) (by decide +kernel) rfl
theorem lk_RX11_340 : Cond.methodLink RX11 340 yX5_write ∈ gw := gt_5 (i := 213) (by decide +kernel) rfl
theorem lk_RX11_348 : Cond.methodLink RX11 348 yX5_readable ∈ gw := gt_5 (i := 229) (by decide +kernel) rfl
theorem lk_RX11_352 : Cond.methodLink RX11 352 yX5_read ∈ gw := gt_6 (i := 2) (by decide +kernel) rfl
theorem lk_RX11_356 : Cond.methodLink RX11 356 yX8_showable ∈ gw := gt_4 (i := 199) (by decide +kernel) rfl
theorem lk_RX11_359 : Cond.methodLink RX11 359 yX1_find ∈ gw := gt_5 (i := 57) (by decide +kernel) rfl
theorem lk_RX11_362 : Cond.methodLink RX11 362 yX11_draw ∈ gw := gt_5 (i := 142) (by decide +kernel) rfl
theorem lk_RX11_368 : Cond.methodLink RX11 368 yJ9_min_7cf53 ∈ gw := gt_5 (i := 149) (by decide +kernel) rfl
theorem lk_RX1_54 : Cond.methodLink RX1 54 yX10_byteAt ∈ gw := gt_5 (i := 44) (by decide +kernel) rfl
theorem lk_RX1_58 : Cond.methodLink RX1 58 yX2_holds ∈ gw := gt_5 (i := 48) (by decide +kernel) rfl
theorem lk_RX1_64 : Cond.methodLink RX1 64 yX8_showable ∈ gw := gt_5 (i := 61) (by decide +kernel) rfl
theorem lk_RX1_68 : Cond.methodLink RX1 68 yX8_takeAll ∈ gw := gt_5 (i := 62) (by decide +kernel) rfl
theorem lk_RX1_72 : Cond.methodLink RX1 72 yX1_isSo ∈ gw := gt_5 (i := 63) (by decide +kernel) rfl
theorem lk_RX1_76 : Cond.methodLink RX1 76 yX1_addFitting ∈ gw := gt_5 (i := 67) (by decide +kernel) rfl
theorem lk_RX1_83 : Cond.methodLink RX1 83 yX1_mostLeft ∈ gw := gt_5 (i := 87) (by decide +kernel) rfl
theorem lk_RX1_90 : Cond.methodLink RX1 90 yJ9_max_7cf53 ∈ gw := gt_5 (i := 91) (by decide +kernel) rfl
theorem lk_RX2_67 : Cond.methodLink RX2 67 yJ7_fill_53178 ∈ gw := gt_3 (i := 136) (by decide +kernel) rfl
theorem lk_RX2_73 : Cond.methodLink RX2 73 yX4_clear ∈ gw := gt_3 (i := 139) (by decide +kernel) rfl
theorem lk_RX2_78 : Cond.methodLink RX2 78 yX4_add ∈ gw := gt_3 (i := 143) (by decide +kernel) rfl
theorem lk_RX3_101 : Cond.methodLink RX3 101 yX3_newWatcher ∈ gw := gt_3 (i := 217) (by decide +kernel) rfl
theorem lk_RX3_104 : Cond.methodLink RX3 104 yX3_onlyOne ∈ gw := gt_3 (i := 221) (by decide +kernel) rfl
theorem lk_RX3_108 : Cond.methodLink RX3 108 yX7_readSum ∈ gw := gt_3 (i := 226) (by decide +kernel) rfl
theorem lk_RX3_116 : Cond.methodLink RX3 116 yX3_beliefAtFirst ∈ gw := gt_4 (i := 27) (by decide +kernel) rfl
theorem lk_RX3_119 : Cond.methodLink RX3 119 yX3_boysOfHundred ∈ gw := gt_4 (i := 31) (by decide +kernel) rfl
theorem lk_RX3_126 : Cond.methodLink RX3 126 yX10_next ∈ gw := gt_3 (i := 200) (by decide +kernel) rfl
theorem lk_RX3_129 : Cond.methodLink RX3 129 yX10_nameHere ∈ gw := gt_3 (i := 201) (by decide +kernel) rfl
theorem lk_RX3_135 : Cond.methodLink RX3 135 yX2_numberOf ∈ gw := gt_3 (i := 205) (by decide +kernel) rfl
theorem lk_RX3_43 : Cond.methodLink RX3 43 yX2_clear ∈ gw := gt_3 (i := 132) (by decide +kernel) rfl
theorem lk_RX3_46 : Cond.methodLink RX3 46 yX10_begin ∈ gw := gt_3 (i := 147) (by decide +kernel) rfl
theorem lk_RX3_49 : Cond.methodLink RX3 49 yX3_treasury ∈ gw := gt_3 (i := 163) (by decide +kernel) rfl
theorem lk_RX3_53 : Cond.methodLink RX3 53 yX10_takeSign ∈ gw := gt_3 (i := 183) (by decide +kernel) rfl
theorem lk_RX3_60 : Cond.methodLink RX3 60 yX3_statement ∈ gw := gt_3 (i := 191) (by decide +kernel) rfl
theorem lk_RX3_66 : Cond.methodLink RX3 66 yX10_wrong ∈ gw := gt_3 (i := 195) (by decide +kernel) rfl
theorem lk_RX3_70 : Cond.methodLink RX3 70 yX10_takeWord ∈ gw := gt_3 (i := 167) (by decide +kernel) rfl
theorem lk_RX3_74 : Cond.methodLink RX3 74 yX10_takeNumber ∈ gw := gt_3 (i := 179) (by decide +kernel) rfl
theorem lk_RX3_92 : Cond.methodLink RX3 92 yX3_oneMore ∈ gw := gt_3 (i := 196) (by decide +kernel) rfl
theorem lk_RX3_95 : Cond.methodLink RX3 95 yX3_newProvince ∈ gw := gt_3 (i := 209) (by decide +kernel) rfl
theorem lk_RX3_98 : Cond.methodLink RX3 98 yX3_newTrick ∈ gw := gt_3 (i := 213) (by decide +kernel) rfl
theorem lk_RX4_24 : Cond.methodLink RX4 24 yX4_factAt ∈ gw := gt_4 (i := 106) (by decide +kernel) rfl
theorem lk_RX4_28 : Cond.methodLink RX4 28 yX4_single ∈ gw := gt_4 (i := 109) (by decide +kernel) rfl
theorem lk_RX4_32 : Cond.methodLink RX4 32 yX4_joined ∈ gw := gt_4 (i := 112) (by decide +kernel) rfl
theorem lk_RX4_36 : Cond.methodLink RX4 36 yX4_bounded ∈ gw := gt_4 (i := 124) (by decide +kernel) rfl
theorem lk_RX4_40 : Cond.methodLink RX4 40 yJ9_floorDiv_f86c9 ∈ gw := gt_4 (i := 115) (by decide +kernel) rfl
theorem lk_RX4_46 : Cond.methodLink RX4 46 yJ9_min_f86c9 ∈ gw := gt_4 (i := 118) (by decide +kernel) rfl
theorem lk_RX4_49 : Cond.methodLink RX4 49 yJ9_max_f86c9 ∈ gw := gt_4 (i := 121) (by decide +kernel) rfl
theorem lk_RX5_27 : Cond.methodLink RX5 27 yX5_put ∈ gw := gt_5 (i := 217) (by decide +kernel) rfl
theorem lk_RX5_57 : Cond.methodLink RX5 57 yX5_isChecked ∈ gw := gt_5 (i := 233) (by decide +kernel) rfl
theorem lk_RX5_61 : Cond.methodLink RX5 61 yX5_take ∈ gw := gt_5 (i := 237) (by decide +kernel) rfl
theorem lk_RX5_69 : Cond.methodLink RX5 69 yX10_byteAt ∈ gw := gt_5 (i := 236) (by decide +kernel) rfl
theorem lk_RX6_41 : Cond.methodLink RX6 41 yX10_begin ∈ gw := gt_5 (i := 167) (by decide +kernel) rfl
theorem lk_RX6_53 : Cond.methodLink RX6 53 yX10_wrong ∈ gw := gt_5 (i := 168) (by decide +kernel) rfl
theorem lk_RX6_57 : Cond.methodLink RX6 57 yX10_next ∈ gw := gt_5 (i := 169) (by decide +kernel) rfl
theorem lk_RX6_61 : Cond.methodLink RX6 61 yX7_readTest ∈ gw := gt_5 (i := 171) (by decide +kernel) rfl
theorem lk_RX6_65 : Cond.methodLink RX6 65 yX7_readSum ∈ gw := gt_5 (i := 191) (by decide +kernel) rfl
theorem lk_RX6_81 : Cond.methodLink RX6 81 yX8_describe ∈ gw := gt_5 (i := 197) (by decide +kernel) rfl
theorem lk_RX6_85 : Cond.methodLink RX6 85 yX4_value ∈ gw := gt_5 (i := 202) (by decide +kernel) rfl
theorem lk_RX6_88 : Cond.methodLink RX6 88 yX6_with ∈ gw := gt_5 (i := 203) (by decide +kernel) rfl
theorem lk_RX6_92 : Cond.methodLink RX6 92 yJ9_max_f86c9 ∈ gw := gt_5 (i := 207) (by decide +kernel) rfl
theorem lk_RX6_98 : Cond.methodLink RX6 98 yJ9_min_f86c9 ∈ gw := gt_5 (i := 208) (by decide +kernel) rfl
theorem lk_RX7_23 : Cond.methodLink RX7 23 yX7_aim ∈ gw := gt_3 (i := 230) (by decide +kernel) rfl
theorem lk_RX7_27 : Cond.methodLink RX7 27 yX7_sum ∈ gw := gt_3 (i := 235) (by decide +kernel) rfl
theorem lk_RX7_31 : Cond.methodLink RX7 31 yX7_test ∈ gw := gt_5 (i := 175) (by decide +kernel) rfl
theorem lk_RX7_34 : Cond.methodLink RX7 34 yX4_clear ∈ gw := gt_3 (i := 234) (by decide +kernel) rfl
theorem lk_RX7_39 : Cond.methodLink RX7 39 yX7_facts ∈ gw := gt_5 (i := 179) (by decide +kernel) rfl
theorem lk_RX7_44 : Cond.methodLink RX7 44 yX10_isWord ∈ gw := gt_4 (i := 17) (by decide +kernel) rfl
theorem lk_RX7_47 : Cond.methodLink RX7 47 yX10_next ∈ gw := gt_4 (i := 15) (by decide +kernel) rfl
theorem lk_RX7_50 : Cond.methodLink RX7 50 yX4_add ∈ gw := gt_4 (i := 8) (by decide +kernel) rfl
theorem lk_RX7_54 : Cond.methodLink RX7 54 yX7_fact ∈ gw := gt_5 (i := 183) (by decide +kernel) rfl
theorem lk_RX7_57 : Cond.methodLink RX7 57 yX7_opens ∈ gw := gt_4 (i := 10) (by decide +kernel) rfl
theorem lk_RX7_60 : Cond.methodLink RX7 60 yX10_isSign ∈ gw := gt_4 (i := 9) (by decide +kernel) rfl
theorem lk_RX7_64 : Cond.methodLink RX7 64 yX10_takeSign ∈ gw := gt_4 (i := 16) (by decide +kernel) rfl
theorem lk_RX7_67 : Cond.methodLink RX7 67 yX7_compared ∈ gw := gt_5 (i := 187) (by decide +kernel) rfl
theorem lk_RX7_73 : Cond.methodLink RX7 73 yX10_wrong ∈ gw := gt_4 (i := 14) (by decide +kernel) rfl
theorem lk_RX7_77 : Cond.methodLink RX7 77 yX7_product ∈ gw := gt_3 (i := 239) (by decide +kernel) rfl
theorem lk_RX7_80 : Cond.methodLink RX7 80 yX7_part ∈ gw := gt_4 (i := 3) (by decide +kernel) rfl
theorem lk_RX7_86 : Cond.methodLink RX7 86 yX10_takeNumber ∈ gw := gt_4 (i := 7) (by decide +kernel) rfl
theorem lk_RX7_92 : Cond.methodLink RX7 92 yX7_oneOfTwo ∈ gw := gt_4 (i := 18) (by decide +kernel) rfl
theorem lk_RX7_95 : Cond.methodLink RX7 95 yX7_isPart ∈ gw := gt_4 (i := 22) (by decide +kernel) rfl
theorem lk_RX8_108 : Cond.methodLink RX8 108 yX9_seenThrough ∈ gw := gt_4 (i := 172) (by decide +kernel) rfl
theorem lk_RX8_121 : Cond.methodLink RX8 121 yX8_takeAll ∈ gw := gt_4 (i := 177) (by decide +kernel) rfl
theorem lk_RX8_125 : Cond.methodLink RX8 125 yX8_sightOfShow ∈ gw := gt_4 (i := 182) (by decide +kernel) rfl
theorem lk_RX8_129 : Cond.methodLink RX8 129 yX8_isBetter ∈ gw := gt_4 (i := 186) (by decide +kernel) rfl
theorem lk_RX8_136 : Cond.methodLink RX8 136 yJ6_bitCount_0f7a4 ∈ gw := gt_4 (i := 190) (by decide +kernel) rfl
theorem lk_RX8_141 : Cond.methodLink RX8 141 yX8_ripen ∈ gw := gt_4 (i := 220) (by decide +kernel) rfl
theorem lk_RX8_145 : Cond.methodLink RX8 145 yX8_lookAtAll ∈ gw := gt_4 (i := 221) (by decide +kernel) rfl
theorem lk_RX8_148 : Cond.methodLink RX8 148 yX8_choose ∈ gw := gt_4 (i := 222) (by decide +kernel) rfl
theorem lk_RX8_151 : Cond.methodLink RX8 151 yX8_give ∈ gw := gt_4 (i := 223) (by decide +kernel) rfl
theorem lk_RX8_155 : Cond.methodLink RX8 155 yX8_loseBelief ∈ gw := gt_4 (i := 227) (by decide +kernel) rfl
theorem lk_RX8_159 : Cond.methodLink RX8 159 yX8_pay ∈ gw := gt_4 (i := 235) (by decide +kernel) rfl
theorem lk_RX8_165 : Cond.methodLink RX8 165 yX9_keep ∈ gw := gt_4 (i := 231) (by decide +kernel) rfl
theorem lk_RX8_176 : Cond.methodLink RX8 176 yX8_seenByAny ∈ gw := gt_5 (i := 100) (by decide +kernel) rfl
theorem lk_RX8_62 : Cond.methodLink RX8 62 yX4_value ∈ gw := gt_4 (i := 102) (by decide +kernel) rfl
theorem lk_RX8_66 : Cond.methodLink RX8 66 yJ9_min_7cf53 ∈ gw := gt_4 (i := 129) (by decide +kernel) rfl
theorem lk_RX8_72 : Cond.methodLink RX8 72 yJ9_max_7cf53 ∈ gw := gt_4 (i := 132) (by decide +kernel) rfl
theorem lk_RX8_81 : Cond.methodLink RX8 81 yX8_glimpse ∈ gw := gt_4 (i := 98) (by decide +kernel) rfl
theorem lk_RX8_85 : Cond.methodLink RX8 85 yX8_showable ∈ gw := gt_4 (i := 168) (by decide +kernel) rfl
theorem lk_RX8_89 : Cond.methodLink RX8 89 yX2_holds ∈ gw := gt_5 (i := 201) (by decide +kernel) rfl
theorem lk_RX9_44 : Cond.methodLink RX9 44 yX2_holds ∈ gw := gt_4 (i := 39) (by decide +kernel) rfl
theorem lk_RX9_49 : Cond.methodLink RX9 49 yJ7_fill_53178 ∈ gw := gt_4 (i := 43) (by decide +kernel) rfl
theorem ac_RX0_107 : ho_ac RX0 107 := ⟨gt_5 (i := 19) (by decide +kernel) rfl, gt_4 (i := 46) (by decide +kernel) rfl, gt_4 (i := 45) (by decide +kernel) rfl, gt_1 (i := 19) (by decide +kernel) rfl⟩
theorem ac_RX8_115 : ho_ac RX8 115 := ⟨gt_4 (i := 181) (by decide +kernel) rfl, gt_4 (i := 46) (by decide +kernel) rfl, gt_4 (i := 45) (by decide +kernel) rfl, gt_1 (i := 19) (by decide +kernel) rfl⟩
theorem ac_RX9_56 : ho_ac RX9 56 := ⟨gt_4 (i := 44) (by decide +kernel) rfl, gt_4 (i := 46) (by decide +kernel) rfl, gt_4 (i := 45) (by decide +kernel) rfl, gt_1 (i := 19) (by decide +kernel) rfl⟩
/-- the methods of Reader that call one another, by their numbers -/
def gH (l : Launch) (E : Ev) (D : Nat) (G : Nat → Nat → Int32 → Hp → Option (Int32 × Hp)) : Prop := ∀ (t a : Nat) (x : Int32) (S : Hp) (r : Int32 × Hp), (a ∈ yH.1 ∧ yH.2.1 a = (1, 7)) → G t a x S = some r → ((t = 0 → ho_M l yH E yX7_test cX7_test 3 (some .boolean) D [.ref (E.2.1 a), .int x] S (some (.int r.1), r.2)) ∧ (t = 1 → ho_M l yH E yX7_facts cX7_facts 3 (some .boolean) D [.ref (E.2.1 a), .int x] S (some (.int r.1), r.2)) ∧ (t = 2 → ho_M l yH E yX7_fact cX7_fact 2 (some .boolean) D [.ref (E.2.1 a), .int x] S (some (.int r.1), r.2)) ∧ (t = 3 → ho_M l yH E yX7_compared cX7_compared 3 (some .boolean) D [.ref (E.2.1 a), .int x] S (some (.int r.1), r.2)) ∧ (t = 4 → ho_M l yH E yX7_sum cX7_sum 4 (some .boolean) D [.ref (E.2.1 a), .int x] S (some (.int r.1), r.2)) ∧ (t = 5 → ho_M l yH E yX7_product cX7_product 4 (some .boolean) D [.ref (E.2.1 a), .int x] S (some (.int r.1), r.2)) ∧ (t = 6 → ho_M l yH E yX7_part cX7_part 2 (some .boolean) D [.ref (E.2.1 a), .int x] S (some (.int r.1), r.2)) ∧ (t = 7 → ho_M l yH E yX7_oneOfTwo cX7_oneOfTwo 3 (some .boolean) D [.ref (E.2.1 a), .int x] S (some (.int r.1), r.2)))
end
