/-- a private method of a class that the tables say can be made, by its rows of tables_1 -/
def lw_okq (q : MethodName × Nat) : Prop := (q.1.cls ≠ "java/lang/invoke/MethodHandle" ∧ q.1.cls ≠ "java/lang/invoke/VarHandle") ∧ Cond.instantiable q.1.cls q.2 ∈ tables_1 ∧ Cond.privateMethod q.1 ∈ tables_1 ∧ Cond.instanceMethod q.1 ∈ tables_1
theorem lw_p0 : lw_okq (⟨"SpellLayers$Reader", "readToken", "()V"⟩, 11) := ⟨⟨by decide +kernel, by decide +kernel⟩, List.mem_of_getElem? (i := 27) (by decide +kernel), List.mem_of_getElem? (i := 260) (by decide +kernel), List.mem_of_getElem? (i := 261) (by decide +kernel)⟩
theorem lw_p1 : lw_okq (⟨"SpellLayers$Reader", "readDigits", "()V"⟩, 11) := ⟨⟨by decide +kernel, by decide +kernel⟩, List.mem_of_getElem? (i := 27) (by decide +kernel), List.mem_of_getElem? (i := 270) (by decide +kernel), List.mem_of_getElem? (i := 271) (by decide +kernel)⟩
theorem lw_p2 : lw_okq (⟨"SpellLayers$Reader", "readLetters", "()V"⟩, 11) := ⟨⟨by decide +kernel, by decide +kernel⟩, List.mem_of_getElem? (i := 27) (by decide +kernel), List.mem_of_getElem? (i := 280) (by decide +kernel), List.mem_of_getElem? (i := 281) (by decide +kernel)⟩
theorem lw_p3 : lw_okq (⟨"SpellLayers$Reader", "isWord", "(Ljava/lang/String;)Z"⟩, 11) := ⟨⟨by decide +kernel, by decide +kernel⟩, List.mem_of_getElem? (i := 27) (by decide +kernel), List.mem_of_getElem? (i := 285) (by decide +kernel), List.mem_of_getElem? (i := 286) (by decide +kernel)⟩
theorem lw_p4 : lw_okq (⟨"SpellLayers$Reader", "accepts", "(LSpellLayers$School;)Z"⟩, 11) := ⟨⟨by decide +kernel, by decide +kernel⟩, List.mem_of_getElem? (i := 27) (by decide +kernel), List.mem_of_getElem? (i := 342) (by decide +kernel), List.mem_of_getElem? (i := 343) (by decide +kernel)⟩
theorem lw_p5 : lw_okq (⟨"SpellLayers$Reader", "closesItem", "(LSpellLayers$School;)Z"⟩, 11) := ⟨⟨by decide +kernel, by decide +kernel⟩, List.mem_of_getElem? (i := 27) (by decide +kernel), List.mem_of_getElem? (i := 346) (by decide +kernel), List.mem_of_getElem? (i := 347) (by decide +kernel)⟩
theorem lw_p6 : lw_okq (⟨"SpellLayers$Reader", "tell", "(LSpellLayers$School;)V"⟩, 11) := ⟨⟨by decide +kernel, by decide +kernel⟩, List.mem_of_getElem? (i := 27) (by decide +kernel), List.mem_of_getElem? (i := 350) (by decide +kernel), List.mem_of_getElem? (i := 351) (by decide +kernel)⟩
theorem lw_p7 : lw_okq (⟨"SpellLayers$Reader", "gatheredRow", "()I"⟩, 11) := ⟨⟨by decide +kernel, by decide +kernel⟩, List.mem_of_getElem? (i := 27) (by decide +kernel), List.mem_of_getElem? (i := 359) (by decide +kernel), List.mem_of_getElem? (i := 360) (by decide +kernel)⟩
theorem lw_p8 : lw_okq (⟨"SpellLayers$Reader", "addsNumber", "(LSpellLayers$School;)Z"⟩, 11) := ⟨⟨by decide +kernel, by decide +kernel⟩, List.mem_of_getElem? (i := 27) (by decide +kernel), List.mem_of_getElem? (i := 386) (by decide +kernel), List.mem_of_getElem? (i := 387) (by decide +kernel)⟩
theorem lw_p9 : lw_okq (⟨"SpellLayers$Reader", "canBeNext", "(LSpellLayers$School;)Z"⟩, 11) := ⟨⟨by decide +kernel, by decide +kernel⟩, List.mem_of_getElem? (i := 27) (by decide +kernel), List.mem_of_getElem? (i := 390) (by decide +kernel), List.mem_of_getElem? (i := 391) (by decide +kernel)⟩
theorem lw_p10 : lw_okq (⟨"SpellLayers$Reader", "opensItem", "(LSpellLayers$School;)Z"⟩, 11) := ⟨⟨by decide +kernel, by decide +kernel⟩, List.mem_of_getElem? (i := 27) (by decide +kernel), List.mem_of_getElem? (i := 402) (by decide +kernel), List.mem_of_getElem? (i := 403) (by decide +kernel)⟩
theorem lw_p11 : lw_okq (⟨"SpellLayers$Reader", "hasPlaceForItem", "(LSpellLayers$School;)Z"⟩, 11) := ⟨⟨by decide +kernel, by decide +kernel⟩, List.mem_of_getElem? (i := 27) (by decide +kernel), List.mem_of_getElem? (i := 406) (by decide +kernel), List.mem_of_getElem? (i := 407) (by decide +kernel)⟩
theorem lw_p12 : lw_okq (⟨"SpellLayers$School", "worksOnBase", "(II)I"⟩, 12) := ⟨⟨by decide +kernel, by decide +kernel⟩, List.mem_of_getElem? (i := 153) (by decide +kernel), List.mem_of_getElem? (i := 626) (by decide +kernel), List.mem_of_getElem? (i := 627) (by decide +kernel)⟩
theorem lw_p13 : lw_okq (⟨"SpellLayers$Search", "offer", "(II)V"⟩, 4) := ⟨⟨by decide +kernel, by decide +kernel⟩, List.mem_of_getElem? (i := 105) (by decide +kernel), List.mem_of_getElem? (i := 639) (by decide +kernel), List.mem_of_getElem? (i := 640) (by decide +kernel)⟩
theorem lw_p14 : lw_okq (⟨"SpellLayers$Search", "rise", "(II)V"⟩, 4) := ⟨⟨by decide +kernel, by decide +kernel⟩, List.mem_of_getElem? (i := 105) (by decide +kernel), List.mem_of_getElem? (i := 645) (by decide +kernel), List.mem_of_getElem? (i := 646) (by decide +kernel)⟩
theorem lw_p15 : lw_okq (⟨"SpellLayers$Search", "sit", "(II)V"⟩, 4) := ⟨⟨by decide +kernel, by decide +kernel⟩, List.mem_of_getElem? (i := 105) (by decide +kernel), List.mem_of_getElem? (i := 649) (by decide +kernel), List.mem_of_getElem? (i := 650) (by decide +kernel)⟩
def lw_privs_1 : List (MethodName × Nat) := [(⟨"SpellLayers$Reader", "readToken", "()V"⟩, 11), (⟨"SpellLayers$Reader", "readDigits", "()V"⟩, 11), (⟨"SpellLayers$Reader", "readLetters", "()V"⟩, 11), (⟨"SpellLayers$Reader", "isWord", "(Ljava/lang/String;)Z"⟩, 11), (⟨"SpellLayers$Reader", "accepts", "(LSpellLayers$School;)Z"⟩, 11), (⟨"SpellLayers$Reader", "closesItem", "(LSpellLayers$School;)Z"⟩, 11), (⟨"SpellLayers$Reader", "tell", "(LSpellLayers$School;)V"⟩, 11), (⟨"SpellLayers$Reader", "gatheredRow", "()I"⟩, 11), (⟨"SpellLayers$Reader", "addsNumber", "(LSpellLayers$School;)Z"⟩, 11), (⟨"SpellLayers$Reader", "canBeNext", "(LSpellLayers$School;)Z"⟩, 11), (⟨"SpellLayers$Reader", "opensItem", "(LSpellLayers$School;)Z"⟩, 11), (⟨"SpellLayers$Reader", "hasPlaceForItem", "(LSpellLayers$School;)Z"⟩, 11), (⟨"SpellLayers$School", "worksOnBase", "(II)I"⟩, 12), (⟨"SpellLayers$Search", "offer", "(II)V"⟩, 4), (⟨"SpellLayers$Search", "rise", "(II)V"⟩, 4), (⟨"SpellLayers$Search", "sit", "(II)V"⟩, 4)]
theorem lw_r1 : ∀ q ∈ lw_privs_1, lw_okq q := List.forall_mem_cons.mpr ⟨lw_p0, List.forall_mem_cons.mpr ⟨lw_p1, List.forall_mem_cons.mpr ⟨lw_p2, List.forall_mem_cons.mpr ⟨lw_p3, List.forall_mem_cons.mpr ⟨lw_p4, List.forall_mem_cons.mpr ⟨lw_p5, List.forall_mem_cons.mpr ⟨lw_p6, List.forall_mem_cons.mpr ⟨lw_p7, List.forall_mem_cons.mpr ⟨lw_p8, List.forall_mem_cons.mpr ⟨lw_p9, List.forall_mem_cons.mpr ⟨lw_p10, List.forall_mem_cons.mpr ⟨lw_p11, List.forall_mem_cons.mpr ⟨lw_p12, List.forall_mem_cons.mpr ⟨lw_p13, List.forall_mem_cons.mpr ⟨lw_p14, List.forall_mem_cons.mpr ⟨lw_p15, fun _ h => absurd h List.not_mem_nil⟩⟩⟩⟩⟩⟩⟩⟩⟩⟩⟩⟩⟩⟩⟩⟩
theorem lw_p16 : lw_okq (⟨"SpellLayers$Search", "takeLeast", "()I"⟩, 4) := ⟨⟨by decide +kernel, by decide +kernel⟩, List.mem_of_getElem? (i := 105) (by decide +kernel), List.mem_of_getElem? (i := 653) (by decide +kernel), List.mem_of_getElem? (i := 654) (by decide +kernel)⟩
theorem lw_p17 : lw_okq (⟨"SpellLayers$Search", "sink", "(I)V"⟩, 4) := ⟨⟨by decide +kernel, by decide +kernel⟩, List.mem_of_getElem? (i := 105) (by decide +kernel), List.mem_of_getElem? (i := 657) (by decide +kernel), List.mem_of_getElem? (i := 658) (by decide +kernel)⟩
theorem lw_p18 : lw_okq (⟨"SpellLayers$Search", "labelAt", "(I)I"⟩, 4) := ⟨⟨by decide +kernel, by decide +kernel⟩, List.mem_of_getElem? (i := 105) (by decide +kernel), List.mem_of_getElem? (i := 661) (by decide +kernel), List.mem_of_getElem? (i := 662) (by decide +kernel)⟩
theorem lw_p19 : lw_okq (⟨"SpellLayers$Search", "goOnFrom", "(LSpellLayers$School;II)V"⟩, 4) := ⟨⟨by decide +kernel, by decide +kernel⟩, List.mem_of_getElem? (i := 105) (by decide +kernel), List.mem_of_getElem? (i := 666) (by decide +kernel), List.mem_of_getElem? (i := 667) (by decide +kernel)⟩
theorem lw_p20 : lw_okq (⟨"SpellLayers$Hat", "canBe", "(LSpellLayers$School;I)Z"⟩, 4) := ⟨⟨by decide +kernel, by decide +kernel⟩, List.mem_of_getElem? (i := 124) (by decide +kernel), List.mem_of_getElem? (i := 719) (by decide +kernel), List.mem_of_getElem? (i := 720) (by decide +kernel)⟩
theorem lw_p21 : lw_okq (⟨"SpellLayers$Hat", "mostLeft", "(LSpellLayers$School;I)I"⟩, 4) := ⟨⟨by decide +kernel, by decide +kernel⟩, List.mem_of_getElem? (i := 124) (by decide +kernel), List.mem_of_getElem? (i := 751) (by decide +kernel), List.mem_of_getElem? (i := 752) (by decide +kernel)⟩
theorem lw_p22 : lw_okq (⟨"SpellLayers$Kinds", "asCharm", "(LSpellLayers$School;I)I"⟩, 1) := ⟨⟨by decide +kernel, by decide +kernel⟩, List.mem_of_getElem? (i := 143) (by decide +kernel), List.mem_of_getElem? (i := 789) (by decide +kernel), List.mem_of_getElem? (i := 790) (by decide +kernel)⟩
theorem lw_p23 : lw_okq (⟨"SpellLayers$Kinds", "asSpell", "(LSpellLayers$School;I)I"⟩, 1) := ⟨⟨by decide +kernel, by decide +kernel⟩, List.mem_of_getElem? (i := 143) (by decide +kernel), List.mem_of_getElem? (i := 794) (by decide +kernel), List.mem_of_getElem? (i := 795) (by decide +kernel)⟩
theorem lw_p24 : lw_okq (⟨"SpellLayers$Kinds", "asCurse", "(LSpellLayers$School;I)I"⟩, 1) := ⟨⟨by decide +kernel, by decide +kernel⟩, List.mem_of_getElem? (i := 143) (by decide +kernel), List.mem_of_getElem? (i := 800) (by decide +kernel), List.mem_of_getElem? (i := 801) (by decide +kernel)⟩
theorem lw_p25 : lw_okq (⟨"SpellLayers$Kinds", "asFlame", "(LSpellLayers$School;I)I"⟩, 1) := ⟨⟨by decide +kernel, by decide +kernel⟩, List.mem_of_getElem? (i := 143) (by decide +kernel), List.mem_of_getElem? (i := 806) (by decide +kernel), List.mem_of_getElem? (i := 807) (by decide +kernel)⟩
theorem lw_p26 : lw_okq (⟨"SpellLayers$Kinds", "asFrost", "(LSpellLayers$School;I)I"⟩, 1) := ⟨⟨by decide +kernel, by decide +kernel⟩, List.mem_of_getElem? (i := 143) (by decide +kernel), List.mem_of_getElem? (i := 811) (by decide +kernel), List.mem_of_getElem? (i := 812) (by decide +kernel)⟩
theorem lw_p27 : lw_okq (⟨"SpellLayers$Kinds", "asWax", "(LSpellLayers$School;LSpellLayers$Shelf;I)I"⟩, 1) := ⟨⟨by decide +kernel, by decide +kernel⟩, List.mem_of_getElem? (i := 143) (by decide +kernel), List.mem_of_getElem? (i := 820) (by decide +kernel), List.mem_of_getElem? (i := 821) (by decide +kernel)⟩
theorem lw_p28 : lw_okq (⟨"SpellLayersModel", "advances", "()V"⟩, 35) := ⟨⟨by decide +kernel, by decide +kernel⟩, List.mem_of_getElem? (i := 868) (by decide +kernel), List.mem_of_getElem? (i := 997) (by decide +kernel), List.mem_of_getElem? (i := 998) (by decide +kernel)⟩
theorem lw_p29 : lw_okq (⟨"SpellLayersModel", "byteAt", "(I)I"⟩, 35) := ⟨⟨by decide +kernel, by decide +kernel⟩, List.mem_of_getElem? (i := 868) (by decide +kernel), List.mem_of_getElem? (i := 1001) (by decide +kernel), List.mem_of_getElem? (i := 1002) (by decide +kernel)⟩
theorem lw_p30 : lw_okq (⟨"SpellLayersModel", "isWell", "()Z"⟩, 35) := ⟨⟨by decide +kernel, by decide +kernel⟩, List.mem_of_getElem? (i := 868) (by decide +kernel), List.mem_of_getElem? (i := 1015) (by decide +kernel), List.mem_of_getElem? (i := 1016) (by decide +kernel)⟩
theorem lw_p31 : lw_okq (⟨"SpellLayersModel", "mayBegin", "()Z"⟩, 35) := ⟨⟨by decide +kernel, by decide +kernel⟩, List.mem_of_getElem? (i := 868) (by decide +kernel), List.mem_of_getElem? (i := 1019) (by decide +kernel), List.mem_of_getElem? (i := 1020) (by decide +kernel)⟩
def lw_privs_2 : List (MethodName × Nat) := [(⟨"SpellLayers$Search", "takeLeast", "()I"⟩, 4), (⟨"SpellLayers$Search", "sink", "(I)V"⟩, 4), (⟨"SpellLayers$Search", "labelAt", "(I)I"⟩, 4), (⟨"SpellLayers$Search", "goOnFrom", "(LSpellLayers$School;II)V"⟩, 4), (⟨"SpellLayers$Hat", "canBe", "(LSpellLayers$School;I)Z"⟩, 4), (⟨"SpellLayers$Hat", "mostLeft", "(LSpellLayers$School;I)I"⟩, 4), (⟨"SpellLayers$Kinds", "asCharm", "(LSpellLayers$School;I)I"⟩, 1), (⟨"SpellLayers$Kinds", "asSpell", "(LSpellLayers$School;I)I"⟩, 1), (⟨"SpellLayers$Kinds", "asCurse", "(LSpellLayers$School;I)I"⟩, 1), (⟨"SpellLayers$Kinds", "asFlame", "(LSpellLayers$School;I)I"⟩, 1), (⟨"SpellLayers$Kinds", "asFrost", "(LSpellLayers$School;I)I"⟩, 1), (⟨"SpellLayers$Kinds", "asWax", "(LSpellLayers$School;LSpellLayers$Shelf;I)I"⟩, 1), (⟨"SpellLayersModel", "advances", "()V"⟩, 35), (⟨"SpellLayersModel", "byteAt", "(I)I"⟩, 35), (⟨"SpellLayersModel", "isWell", "()Z"⟩, 35), (⟨"SpellLayersModel", "mayBegin", "()Z"⟩, 35)]
theorem lw_r2 : ∀ q ∈ lw_privs_2, lw_okq q := List.forall_mem_cons.mpr ⟨lw_p16, List.forall_mem_cons.mpr ⟨lw_p17, List.forall_mem_cons.mpr ⟨lw_p18, List.forall_mem_cons.mpr ⟨lw_p19, List.forall_mem_cons.mpr ⟨lw_p20, List.forall_mem_cons.mpr ⟨lw_p21, List.forall_mem_cons.mpr ⟨lw_p22, List.forall_mem_cons.mpr ⟨lw_p23, List.forall_mem_cons.mpr ⟨lw_p24, List.forall_mem_cons.mpr ⟨lw_p25, List.forall_mem_cons.mpr ⟨lw_p26, List.forall_mem_cons.mpr ⟨lw_p27, List.forall_mem_cons.mpr ⟨lw_p28, List.forall_mem_cons.mpr ⟨lw_p29, List.forall_mem_cons.mpr ⟨lw_p30, List.forall_mem_cons.mpr ⟨lw_p31, fun _ h => absurd h List.not_mem_nil⟩⟩⟩⟩⟩⟩⟩⟩⟩⟩⟩⟩⟩⟩⟩⟩
theorem lw_p32 : lw_okq (⟨"SpellLayersModel", "takes", "(Z)I"⟩, 35) := ⟨⟨by decide +kernel, by decide +kernel⟩, List.mem_of_getElem? (i := 868) (by decide +kernel), List.mem_of_getElem? (i := 1023) (by decide +kernel), List.mem_of_getElem? (i := 1024) (by decide +kernel)⟩
theorem lw_p33 : lw_okq (⟨"SpellLayersModel", "readsItem", "(I)V"⟩, 35) := ⟨⟨by decide +kernel, by decide +kernel⟩, List.mem_of_getElem? (i := 868) (by decide +kernel), List.mem_of_getElem? (i := 1027) (by decide +kernel), List.mem_of_getElem? (i := 1028) (by decide +kernel)⟩
theorem lw_p34 : lw_okq (⟨"SpellLayersModel", "number", "(II)I"⟩, 35) := ⟨⟨by decide +kernel, by decide +kernel⟩, List.mem_of_getElem? (i := 868) (by decide +kernel), List.mem_of_getElem? (i := 1031) (by decide +kernel), List.mem_of_getElem? (i := 1032) (by decide +kernel)⟩
theorem lw_p35 : lw_okq (⟨"SpellLayersModel", "settles", "()V"⟩, 35) := ⟨⟨by decide +kernel, by decide +kernel⟩, List.mem_of_getElem? (i := 868) (by decide +kernel), List.mem_of_getElem? (i := 1035) (by decide +kernel), List.mem_of_getElem? (i := 1036) (by decide +kernel)⟩
theorem lw_p36 : lw_okq (⟨"SpellLayersModel", "isRow", "(I)Z"⟩, 35) := ⟨⟨by decide +kernel, by decide +kernel⟩, List.mem_of_getElem? (i := 868) (by decide +kernel), List.mem_of_getElem? (i := 1039) (by decide +kernel), List.mem_of_getElem? (i := 1040) (by decide +kernel)⟩
theorem lw_p37 : lw_okq (⟨"SpellLayersModel", "isSpell", "(I)Z"⟩, 35) := ⟨⟨by decide +kernel, by decide +kernel⟩, List.mem_of_getElem? (i := 868) (by decide +kernel), List.mem_of_getElem? (i := 1047) (by decide +kernel), List.mem_of_getElem? (i := 1048) (by decide +kernel)⟩
theorem lw_p38 : lw_okq (⟨"SpellLayersModel", "isThing", "(I)Z"⟩, 35) := ⟨⟨by decide +kernel, by decide +kernel⟩, List.mem_of_getElem? (i := 868) (by decide +kernel), List.mem_of_getElem? (i := 1055) (by decide +kernel), List.mem_of_getElem? (i := 1056) (by decide +kernel)⟩
theorem lw_p39 : lw_okq (⟨"SpellLayersModel", "worksOf", "(I)I"⟩, 35) := ⟨⟨by decide +kernel, by decide +kernel⟩, List.mem_of_getElem? (i := 868) (by decide +kernel), List.mem_of_getElem? (i := 1062) (by decide +kernel), List.mem_of_getElem? (i := 1063) (by decide +kernel)⟩
theorem lw_p40 : lw_okq (⟨"SpellLayersModel", "isPupil", "(I)Z"⟩, 35) := ⟨⟨by decide +kernel, by decide +kernel⟩, List.mem_of_getElem? (i := 868) (by decide +kernel), List.mem_of_getElem? (i := 1077) (by decide +kernel), List.mem_of_getElem? (i := 1078) (by decide +kernel)⟩
theorem lw_p41 : lw_okq (⟨"SpellLayersModel", "may", "(II)Z"⟩, 35) := ⟨⟨by decide +kernel, by decide +kernel⟩, List.mem_of_getElem? (i := 868) (by decide +kernel), List.mem_of_getElem? (i := 1085) (by decide +kernel), List.mem_of_getElem? (i := 1086) (by decide +kernel)⟩
theorem lw_p42 : lw_okq (⟨"SpellLayersModel", "becomes", "(III)V"⟩, 35) := ⟨⟨by decide +kernel, by decide +kernel⟩, List.mem_of_getElem? (i := 868) (by decide +kernel), List.mem_of_getElem? (i := 1089) (by decide +kernel), List.mem_of_getElem? (i := 1090) (by decide +kernel)⟩
theorem lw_p43 : lw_okq (⟨"SpellLayersModel", "sweeps", "(II)V"⟩, 35) := ⟨⟨by decide +kernel, by decide +kernel⟩, List.mem_of_getElem? (i := 868) (by decide +kernel), List.mem_of_getElem? (i := 1120) (by decide +kernel), List.mem_of_getElem? (i := 1121) (by decide +kernel)⟩
theorem lw_p44 : lw_okq (⟨"SpellLayersModel", "wayFrom", "(II)I"⟩, 35) := ⟨⟨by decide +kernel, by decide +kernel⟩, List.mem_of_getElem? (i := 868) (by decide +kernel), List.mem_of_getElem? (i := 1125) (by decide +kernel), List.mem_of_getElem? (i := 1126) (by decide +kernel)⟩
theorem lw_p45 : lw_okq (⟨"SpellLayersModel", "said", "(III)I"⟩, 35) := ⟨⟨by decide +kernel, by decide +kernel⟩, List.mem_of_getElem? (i := 868) (by decide +kernel), List.mem_of_getElem? (i := 1129) (by decide +kernel), List.mem_of_getElem? (i := 1130) (by decide +kernel)⟩
theorem lw_p46 : lw_okq (⟨"SpellLayersModel", "canSay", "(III)Z"⟩, 35) := ⟨⟨by decide +kernel, by decide +kernel⟩, List.mem_of_getElem? (i := 868) (by decide +kernel), List.mem_of_getElem? (i := 1133) (by decide +kernel), List.mem_of_getElem? (i := 1134) (by decide +kernel)⟩
theorem lw_p47 : lw_okq (⟨"SpellLayersModel", "costOf", "(II)I"⟩, 35) := ⟨⟨by decide +kernel, by decide +kernel⟩, List.mem_of_getElem? (i := 868) (by decide +kernel), List.mem_of_getElem? (i := 1137) (by decide +kernel), List.mem_of_getElem? (i := 1138) (by decide +kernel)⟩
def lw_privs_3 : List (MethodName × Nat) := [(⟨"SpellLayersModel", "takes", "(Z)I"⟩, 35), (⟨"SpellLayersModel", "readsItem", "(I)V"⟩, 35), (⟨"SpellLayersModel", "number", "(II)I"⟩, 35), (⟨"SpellLayersModel", "settles", "()V"⟩, 35), (⟨"SpellLayersModel", "isRow", "(I)Z"⟩, 35), (⟨"SpellLayersModel", "isSpell", "(I)Z"⟩, 35), (⟨"SpellLayersModel", "isThing", "(I)Z"⟩, 35), (⟨"SpellLayersModel", "worksOf", "(I)I"⟩, 35), (⟨"SpellLayersModel", "isPupil", "(I)Z"⟩, 35), (⟨"SpellLayersModel", "may", "(II)Z"⟩, 35), (⟨"SpellLayersModel", "becomes", "(III)V"⟩, 35), (⟨"SpellLayersModel", "sweeps", "(II)V"⟩, 35), (⟨"SpellLayersModel", "wayFrom", "(II)I"⟩, 35), (⟨"SpellLayersModel", "said", "(III)I"⟩, 35), (⟨"SpellLayersModel", "canSay", "(III)Z"⟩, 35), (⟨"SpellLayersModel", "costOf", "(II)I"⟩, 35)]
theorem lw_r3 : ∀ q ∈ lw_privs_3, lw_okq q := List.forall_mem_cons.mpr ⟨lw_p32, List.forall_mem_cons.mpr ⟨lw_p33, List.forall_mem_cons.mpr ⟨lw_p34, List.forall_mem_cons.mpr ⟨lw_p35, List.forall_mem_cons.mpr ⟨lw_p36, List.forall_mem_cons.mpr ⟨lw_p37, List.forall_mem_cons.mpr ⟨lw_p38, List.forall_mem_cons.mpr ⟨lw_p39, List.forall_mem_cons.mpr ⟨lw_p40, List.forall_mem_cons.mpr ⟨lw_p41, List.forall_mem_cons.mpr ⟨lw_p42, List.forall_mem_cons.mpr ⟨lw_p43, List.forall_mem_cons.mpr ⟨lw_p44, List.forall_mem_cons.mpr ⟨lw_p45, List.forall_mem_cons.mpr ⟨lw_p46, List.forall_mem_cons.mpr ⟨lw_p47, fun _ h => absurd h List.not_mem_nil⟩⟩⟩⟩⟩⟩⟩⟩⟩⟩⟩⟩⟩⟩⟩⟩
theorem lw_p48 : lw_okq (⟨"SpellLayersModel", "spellsIn", "(I)I"⟩, 35) := ⟨⟨by decide +kernel, by decide +kernel⟩, List.mem_of_getElem? (i := 868) (by decide +kernel), List.mem_of_getElem? (i := 1152) (by decide +kernel), List.mem_of_getElem? (i := 1153) (by decide +kernel)⟩
theorem lw_p49 : lw_okq (⟨"SpellLayersModel", "isHat", "(I)Z"⟩, 35) := ⟨⟨by decide +kernel, by decide +kernel⟩, List.mem_of_getElem? (i := 868) (by decide +kernel), List.mem_of_getElem? (i := 1168) (by decide +kernel), List.mem_of_getElem? (i := 1169) (by decide +kernel)⟩
theorem lw_p50 : lw_okq (⟨"SpellLayersModel", "atWorst", "(I)I"⟩, 35) := ⟨⟨by decide +kernel, by decide +kernel⟩, List.mem_of_getElem? (i := 868) (by decide +kernel), List.mem_of_getElem? (i := 1183) (by decide +kernel), List.mem_of_getElem? (i := 1184) (by decide +kernel)⟩
theorem lw_p51 : lw_okq (⟨"SpellLayersModel", "played", "(IIIII)I"⟩, 35) := ⟨⟨by decide +kernel, by decide +kernel⟩, List.mem_of_getElem? (i := 868) (by decide +kernel), List.mem_of_getElem? (i := 1191) (by decide +kernel), List.mem_of_getElem? (i := 1192) (by decide +kernel)⟩
theorem lw_p52 : lw_okq (⟨"SpellLayersModel", "folds", "(II)V"⟩, 35) := ⟨⟨by decide +kernel, by decide +kernel⟩, List.mem_of_getElem? (i := 868) (by decide +kernel), List.mem_of_getElem? (i := 1195) (by decide +kernel), List.mem_of_getElem? (i := 1196) (by decide +kernel)⟩
def lw_privs_4 : List (MethodName × Nat) := [(⟨"SpellLayersModel", "spellsIn", "(I)I"⟩, 35), (⟨"SpellLayersModel", "isHat", "(I)Z"⟩, 35), (⟨"SpellLayersModel", "atWorst", "(I)I"⟩, 35), (⟨"SpellLayersModel", "played", "(IIIII)I"⟩, 35), (⟨"SpellLayersModel", "folds", "(II)V"⟩, 35)]
theorem lw_r4 : ∀ q ∈ lw_privs_4, lw_okq q := List.forall_mem_cons.mpr ⟨lw_p48, List.forall_mem_cons.mpr ⟨lw_p49, List.forall_mem_cons.mpr ⟨lw_p50, List.forall_mem_cons.mpr ⟨lw_p51, List.forall_mem_cons.mpr ⟨lw_p52, fun _ h => absurd h List.not_mem_nil⟩⟩⟩⟩⟩
def lw_privs : List (MethodName × Nat) := lw_privs_1 ++ (lw_privs_2 ++ (lw_privs_3 ++ (lw_privs_4)))
def lw_tbl : List Cond := k2_sels lw_privs ++ tables_1
theorem lw_privs_ok : ∀ q ∈ lw_privs, lw_okq q := by
  show ∀ q ∈ lw_privs_1 ++ (lw_privs_2 ++ (lw_privs_3 ++ (lw_privs_4))), lw_okq q
  exact List.forall_mem_append.mpr ⟨lw_r1, List.forall_mem_append.mpr ⟨lw_r2, List.forall_mem_append.mpr ⟨lw_r3, lw_r4⟩⟩⟩
def RX0 : String := "SpellLayers$Broom"
def TX0 : u_T := fun k => match k with
  | _ => ("", "", "", false)
def tyX0 : Nat → FieldType := fun k => match k with
  | _ => .int
abbrev wsX00 : List Cond := u_ws RX0 TX0 0
theorem nmX0 : ∀ a, a < 0 → ∀ b, b < 0 → a ≠ b → (TX0 a).2.1 ≠ (TX0 b).2.1 := by decide +kernel
theorem tyX0_ok : ∀ k, k < 0 → parseFieldDescriptor (TX0 k).2.2.1 = some (tyX0 k) := by decide +kernel
abbrev cX0_isWon : ByteArray := prog_2_method_2_code
def yX0_isWon : MethodName := ⟨RX0, "isWon", "(LSpellLayers$School;IIIIIZ)Z"⟩
abbrev cX0_firstWord : ByteArray := prog_2_method_3_code
def yX0_firstWord : MethodName := ⟨RX0, "firstWord", "(LSpellLayers$School;IIIII)I"⟩
def RX1 : String := "SpellLayers$Hat"
def TX1 : u_T := fun k => match k with
  | 0 => ("SpellLayers$Hat", "liftedThen", "[I", true)
  | 1 => ("SpellLayers$Hat", "workedThen", "[I", true)
  | 2 => ("SpellLayers$Hat", "seen", "I", false)
  | _ => ("SpellLayers$Hat", "answers", "[I", true)
def tyX1 : Nat → FieldType := fun k => match k with
  | 0 => .array .int
  | 1 => .array .int
  | 2 => .int
  | _ => .array .int
abbrev wsX10 : List Cond := u_ws RX1 TX1 4
theorem nmX1 : ∀ a, a < 4 → ∀ b, b < 4 → a ≠ b → (TX1 a).2.1 ≠ (TX1 b).2.1 := by decide +kernel
theorem tyX1_ok : ∀ k, k < 4 → parseFieldDescriptor (TX1 k).2.2.1 = some (tyX1 k) := by decide +kernel
abbrev cX1_init : ByteArray := prog_3_method_1_code
def yX1_init : MethodName := ⟨RX1, "<init>", "()V"⟩
abbrev cX1_seen : ByteArray := prog_3_method_2_code
def yX1_seen : MethodName := ⟨RX1, "seen", "()I"⟩
abbrev cX1_seeNothing : ByteArray := prog_3_method_3_code
def yX1_seeNothing : MethodName := ⟨RX1, "seeNothing", "()V"⟩
abbrev cX1_see : ByteArray := prog_3_method_4_code
def yX1_see : MethodName := ⟨RX1, "see", "(II)Z"⟩
abbrev cX1_possible : ByteArray := prog_3_method_5_code
def yX1_possible : MethodName := ⟨RX1, "possible", "(LSpellLayers$School;)I"⟩
abbrev cX1_spellAt : ByteArray := prog_3_method_6_code
def yX1_spellAt : MethodName := ⟨RX1, "spellAt", "(LSpellLayers$School;I)I"⟩
abbrev cX1_bestToLift : ByteArray := prog_3_method_7_code
def yX1_bestToLift : MethodName := ⟨RX1, "bestToLift", "(LSpellLayers$School;)I"⟩
abbrev cX1_mostLeft : ByteArray := prog_3_method_8_code
def yX1_mostLeft : MethodName := ⟨RX1, "mostLeft", "(LSpellLayers$School;I)I"⟩
abbrev cX1_canBe : ByteArray := prog_3_method_9_code
def yX1_canBe : MethodName := ⟨RX1, "canBe", "(LSpellLayers$School;I)Z"⟩
abbrev cX1_answerOf : ByteArray := prog_3_method_10_code
def yX1_answerOf : MethodName := ⟨RX1, "answerOf", "(LSpellLayers$School;II)I"⟩
def RX2 : String := "SpellLayers$Kinds"
def TX2 : u_T := fun k => match k with
  | _ => ("SpellLayers$Kinds", "traced", "J", false)
def tyX2 : Nat → FieldType := fun k => match k with
  | _ => .long
abbrev wsX20 : List Cond := u_ws RX2 TX2 1
theorem nmX2 : ∀ a, a < 1 → ∀ b, b < 1 → a ≠ b → (TX2 a).2.1 ≠ (TX2 b).2.1 := by decide +kernel
theorem tyX2_ok : ∀ k, k < 1 → parseFieldDescriptor (TX2 k).2.2.1 = some (tyX2 k) := by decide +kernel
abbrev cX2_init : ByteArray := prog_4_method_1_code
def yX2_init : MethodName := ⟨RX2, "<init>", "()V"⟩
abbrev cX2_traced : ByteArray := prog_4_method_2_code
def yX2_traced : MethodName := ⟨RX2, "traced", "()J"⟩
abbrev cX2_rating : ByteArray := prog_4_method_3_code
def yX2_rating : MethodName := ⟨RX2, "rating", "(ILSpellLayers$School;LSpellLayers$Shelf;I)I"⟩
abbrev cX2_asSpell : ByteArray := prog_4_method_4_code
def yX2_asSpell : MethodName := ⟨RX2, "asSpell", "(LSpellLayers$School;I)I"⟩
abbrev cX2_asCharm : ByteArray := prog_4_method_5_code
def yX2_asCharm : MethodName := ⟨RX2, "asCharm", "(LSpellLayers$School;I)I"⟩
abbrev cX2_asCurse : ByteArray := prog_4_method_6_code
def yX2_asCurse : MethodName := ⟨RX2, "asCurse", "(LSpellLayers$School;I)I"⟩
abbrev cX2_asFlame : ByteArray := prog_4_method_7_code
def yX2_asFlame : MethodName := ⟨RX2, "asFlame", "(LSpellLayers$School;I)I"⟩
abbrev cX2_asFrost : ByteArray := prog_4_method_8_code
def yX2_asFrost : MethodName := ⟨RX2, "asFrost", "(LSpellLayers$School;I)I"⟩
abbrev cX2_asWax : ByteArray := prog_4_method_9_code
def yX2_asWax : MethodName := ⟨RX2, "asWax", "(LSpellLayers$School;LSpellLayers$Shelf;I)I"⟩
def RX3 : String := "SpellLayers$Reader"
def TX3 : u_T := fun k => match k with
  | 0 => ("SpellLayers$Reader", "bytes", "[I", true)
  | 1 => ("SpellLayers$Reader", "length", "I", false)
  | 2 => ("SpellLayers$Reader", "place", "I", false)
  | 3 => ("SpellLayers$Reader", "sort", "I", false)
  | 4 => ("SpellLayers$Reader", "start", "I", false)
  | 5 => ("SpellLayers$Reader", "value", "I", false)
  | 6 => ("SpellLayers$Reader", "item", "I", false)
  | 7 => ("SpellLayers$Reader", "numbers", "[I", true)
  | 8 => ("SpellLayers$Reader", "many", "I", false)
  | 9 => ("SpellLayers$Reader", "items", "I", false)
  | _ => ("SpellLayers$Reader", "wordsTold", "I", false)
def tyX3 : Nat → FieldType := fun k => match k with
  | 0 => .array .int
  | 1 => .int
  | 2 => .int
  | 3 => .int
  | 4 => .int
  | 5 => .int
  | 6 => .int
  | 7 => .array .int
  | 8 => .int
  | 9 => .int
  | _ => .int
abbrev wsX30 : List Cond := u_ws RX3 TX3 11
theorem nmX3 : ∀ a, a < 11 → ∀ b, b < 11 → a ≠ b → (TX3 a).2.1 ≠ (TX3 b).2.1 := by decide +kernel
theorem tyX3_ok : ∀ k, k < 11 → parseFieldDescriptor (TX3 k).2.2.1 = some (tyX3 k) := by decide +kernel
abbrev cX3_init : ByteArray := prog_5_method_1_code
def yX3_init : MethodName := ⟨RX3, "<init>", "()V"⟩
abbrev cX3_length : ByteArray := prog_5_method_2_code
def yX3_length : MethodName := ⟨RX3, "length", "()I"⟩
abbrev cX3_empty : ByteArray := prog_5_method_3_code
def yX3_empty : MethodName := ⟨RX3, "empty", "()V"⟩
abbrev cX3_hasRoomFor : ByteArray := prog_5_method_4_code
def yX3_hasRoomFor : MethodName := ⟨RX3, "hasRoomFor", "(I)Z"⟩
abbrev cX3_add : ByteArray := prog_5_method_5_code
def yX3_add : MethodName := ⟨RX3, "add", "(I)V"⟩
abbrev cX3_read : ByteArray := prog_5_method_6_code
def yX3_read : MethodName := ⟨RX3, "read", "(LSpellLayers$School;)I"⟩
abbrev cX3_accepts : ByteArray := prog_5_method_7_code
def yX3_accepts : MethodName := ⟨RX3, "accepts", "(LSpellLayers$School;)Z"⟩
abbrev cX3_opensItem : ByteArray := prog_5_method_8_code
def yX3_opensItem : MethodName := ⟨RX3, "opensItem", "(LSpellLayers$School;)Z"⟩
abbrev cX3_hasPlaceForItem : ByteArray := prog_5_method_9_code
def yX3_hasPlaceForItem : MethodName := ⟨RX3, "hasPlaceForItem", "(LSpellLayers$School;)Z"⟩
abbrev cX3_addsNumber : ByteArray := prog_5_method_10_code
def yX3_addsNumber : MethodName := ⟨RX3, "addsNumber", "(LSpellLayers$School;)Z"⟩
abbrev cX3_canBeNext : ByteArray := prog_5_method_11_code
def yX3_canBeNext : MethodName := ⟨RX3, "canBeNext", "(LSpellLayers$School;)Z"⟩
abbrev cX3_closesItem : ByteArray := prog_5_method_12_code
def yX3_closesItem : MethodName := ⟨RX3, "closesItem", "(LSpellLayers$School;)Z"⟩
abbrev cX3_tell : ByteArray := prog_5_method_13_code
def yX3_tell : MethodName := ⟨RX3, "tell", "(LSpellLayers$School;)V"⟩
abbrev cX3_gatheredRow : ByteArray := prog_5_method_14_code
def yX3_gatheredRow : MethodName := ⟨RX3, "gatheredRow", "()I"⟩
abbrev cX3_readToken : ByteArray := prog_5_method_15_code
def yX3_readToken : MethodName := ⟨RX3, "readToken", "()V"⟩
abbrev cX3_readDigits : ByteArray := prog_5_method_16_code
def yX3_readDigits : MethodName := ⟨RX3, "readDigits", "()V"⟩
abbrev cX3_readLetters : ByteArray := prog_5_method_17_code
def yX3_readLetters : MethodName := ⟨RX3, "readLetters", "()V"⟩
abbrev cX3_isWord : ByteArray := prog_5_method_18_code
def yX3_isWord : MethodName := ⟨RX3, "isWord", "(Ljava/lang/String;)Z"⟩
abbrev cX3_isDigit : ByteArray := prog_5_method_19_code
def yX3_isDigit : MethodName := ⟨RX3, "isDigit", "(I)Z"⟩
abbrev cX3_isLetter : ByteArray := prog_5_method_20_code
def yX3_isLetter : MethodName := ⟨RX3, "isLetter", "(I)Z"⟩
def RX4 : String := "SpellLayers$Row"
def TX4 : u_T := fun k => match k with
  | _ => ("", "", "", false)
def tyX4 : Nat → FieldType := fun k => match k with
  | _ => .int
abbrev wsX40 : List Cond := u_ws RX4 TX4 0
theorem nmX4 : ∀ a, a < 0 → ∀ b, b < 0 → a ≠ b → (TX4 a).2.1 ≠ (TX4 b).2.1 := by decide +kernel
theorem tyX4_ok : ∀ k, k < 0 → parseFieldDescriptor (TX4 k).2.2.1 = some (tyX4 k) := by decide +kernel
abbrev cX4_isFull : ByteArray := prog_6_method_2_code
def yX4_isFull : MethodName := ⟨RX4, "isFull", "(I)Z"⟩
abbrev cX4_with : ByteArray := prog_6_method_3_code
def yX4_with : MethodName := ⟨RX4, "with", "(II)I"⟩
abbrev cX4_top : ByteArray := prog_6_method_4_code
def yX4_top : MethodName := ⟨RX4, "top", "(I)I"⟩
abbrev cX4_below : ByteArray := prog_6_method_5_code
def yX4_below : MethodName := ⟨RX4, "below", "(I)I"⟩
abbrev cX4_without : ByteArray := prog_6_method_6_code
def yX4_without : MethodName := ⟨RX4, "without", "(II)I"⟩
abbrev cX4_fromAbove : ByteArray := prog_6_method_7_code
def yX4_fromAbove : MethodName := ⟨RX4, "fromAbove", "(II)I"⟩
abbrev cX4_swapped : ByteArray := prog_6_method_8_code
def yX4_swapped : MethodName := ⟨RX4, "swapped", "(I)I"⟩
abbrev cX4_depth : ByteArray := prog_6_method_9_code
def yX4_depth : MethodName := ⟨RX4, "depth", "(I)I"⟩
def RX5 : String := "SpellLayers$School"
def TX5 : u_T := fun k => match k with
  | 0 => ("SpellLayers$School", "effect", "[I", true)
  | 1 => ("SpellLayers$School", "glass", "[I", true)
  | 2 => ("SpellLayers$School", "layCosts", "[I", true)
  | 3 => ("SpellLayers$School", "liftCosts", "[I", true)
  | 4 => ("SpellLayers$School", "firstRows", "[I", true)
  | 5 => ("SpellLayers$School", "pupilSpells", "[I", true)
  | 6 => ("SpellLayers$School", "spells", "I", false)
  | 7 => ("SpellLayers$School", "things", "I", false)
  | 8 => ("SpellLayers$School", "pupils", "I", false)
  | 9 => ("SpellLayers$School", "swapCost", "I", false)
  | 10 => ("SpellLayers$School", "copyCost", "I", false)
  | _ => ("SpellLayers$School", "humDepth", "I", false)
def tyX5 : Nat → FieldType := fun k => match k with
  | 0 => .array .int
  | 1 => .array .int
  | 2 => .array .int
  | 3 => .array .int
  | 4 => .array .int
  | 5 => .array .int
  | 6 => .int
  | 7 => .int
  | 8 => .int
  | 9 => .int
  | 10 => .int
  | _ => .int
abbrev wsX50 : List Cond := u_ws RX5 TX5 12
theorem nmX5 : ∀ a, a < 12 → ∀ b, b < 12 → a ≠ b → (TX5 a).2.1 ≠ (TX5 b).2.1 := by decide +kernel
theorem tyX5_ok : ∀ k, k < 12 → parseFieldDescriptor (TX5 k).2.2.1 = some (tyX5 k) := by decide +kernel
abbrev cX5_init : ByteArray := prog_7_method_1_code
def yX5_init : MethodName := ⟨RX5, "<init>", "()V"⟩
abbrev cX5_beNew : ByteArray := prog_7_method_2_code
def yX5_beNew : MethodName := ⟨RX5, "beNew", "()V"⟩
abbrev cX5_addSpell : ByteArray := prog_7_method_3_code
def yX5_addSpell : MethodName := ⟨RX5, "addSpell", "(IIII)V"⟩
abbrev cX5_addThing : ByteArray := prog_7_method_4_code
def yX5_addThing : MethodName := ⟨RX5, "addThing", "(I)V"⟩
abbrev cX5_addPupil : ByteArray := prog_7_method_5_code
def yX5_addPupil : MethodName := ⟨RX5, "addPupil", "(I)V"⟩
abbrev cX5_setSwapCost : ByteArray := prog_7_method_6_code
def yX5_setSwapCost : MethodName := ⟨RX5, "setSwapCost", "(I)V"⟩
abbrev cX5_setCopyCost : ByteArray := prog_7_method_7_code
def yX5_setCopyCost : MethodName := ⟨RX5, "setCopyCost", "(I)V"⟩
abbrev cX5_setHumDepth : ByteArray := prog_7_method_8_code
def yX5_setHumDepth : MethodName := ⟨RX5, "setHumDepth", "(I)V"⟩
abbrev cX5_spells : ByteArray := prog_7_method_9_code
def yX5_spells : MethodName := ⟨RX5, "spells", "()I"⟩
abbrev cX5_things : ByteArray := prog_7_method_10_code
def yX5_things : MethodName := ⟨RX5, "things", "()I"⟩
abbrev cX5_pupils : ByteArray := prog_7_method_11_code
def yX5_pupils : MethodName := ⟨RX5, "pupils", "()I"⟩
abbrev cX5_costOfSwap : ByteArray := prog_7_method_12_code
def yX5_costOfSwap : MethodName := ⟨RX5, "costOfSwap", "()I"⟩
abbrev cX5_costOfCopy : ByteArray := prog_7_method_13_code
def yX5_costOfCopy : MethodName := ⟨RX5, "costOfCopy", "()I"⟩
abbrev cX5_humsFrom : ByteArray := prog_7_method_14_code
def yX5_humsFrom : MethodName := ⟨RX5, "humsFrom", "()I"⟩
abbrev cX5_isSpell : ByteArray := prog_7_method_15_code
def yX5_isSpell : MethodName := ⟨RX5, "isSpell", "(I)Z"⟩
abbrev cX5_isThing : ByteArray := prog_7_method_16_code
def yX5_isThing : MethodName := ⟨RX5, "isThing", "(I)Z"⟩
abbrev cX5_isPupil : ByteArray := prog_7_method_17_code
def yX5_isPupil : MethodName := ⟨RX5, "isPupil", "(I)Z"⟩
abbrev cX5_isPupilSet : ByteArray := prog_7_method_18_code
def yX5_isPupilSet : MethodName := ⟨RX5, "isPupilSet", "(I)Z"⟩
abbrev cX5_effectOf : ByteArray := prog_7_method_19_code
def yX5_effectOf : MethodName := ⟨RX5, "effectOf", "(I)I"⟩
abbrev cX5_isGlass : ByteArray := prog_7_method_20_code
def yX5_isGlass : MethodName := ⟨RX5, "isGlass", "(I)Z"⟩
abbrev cX5_layCost : ByteArray := prog_7_method_21_code
def yX5_layCost : MethodName := ⟨RX5, "layCost", "(I)I"⟩
abbrev cX5_liftCost : ByteArray := prog_7_method_22_code
def yX5_liftCost : MethodName := ⟨RX5, "liftCost", "(I)I"⟩
abbrev cX5_firstRow : ByteArray := prog_7_method_23_code
def yX5_firstRow : MethodName := ⟨RX5, "firstRow", "(I)I"⟩
abbrev cX5_spellsOfPupil : ByteArray := prog_7_method_24_code
def yX5_spellsOfPupil : MethodName := ⟨RX5, "spellsOfPupil", "(I)I"⟩
abbrev cX5_spellsOfSet : ByteArray := prog_7_method_25_code
def yX5_spellsOfSet : MethodName := ⟨RX5, "spellsOfSet", "(I)I"⟩
abbrev cX5_sayersOf : ByteArray := prog_7_method_26_code
def yX5_sayersOf : MethodName := ⟨RX5, "sayersOf", "(I)I"⟩
abbrev cX5_maySay : ByteArray := prog_7_method_27_code
def yX5_maySay : MethodName := ⟨RX5, "maySay", "(II)Z"⟩
abbrev cX5_mayOneSay : ByteArray := prog_7_method_28_code
def yX5_mayOneSay : MethodName := ⟨RX5, "mayOneSay", "(II)Z"⟩
abbrev cX5_isHumming : ByteArray := prog_7_method_29_code
def yX5_isHumming : MethodName := ⟨RX5, "isHumming", "(I)Z"⟩
abbrev cX5_knows : ByteArray := prog_7_method_30_code
def yX5_knows : MethodName := ⟨RX5, "knows", "(I)Z"⟩
abbrev cX5_worksOf : ByteArray := prog_7_method_31_code
def yX5_worksOf : MethodName := ⟨RX5, "worksOf", "(I)I"⟩
abbrev cX5_after : ByteArray := prog_7_method_32_code
def yX5_after : MethodName := ⟨RX5, "after", "(III)I"⟩
abbrev cX5_costOf : ByteArray := prog_7_method_33_code
def yX5_costOf : MethodName := ⟨RX5, "costOf", "(II)I"⟩
abbrev cX5_hasWay : ByteArray := prog_7_method_34_code
def yX5_hasWay : MethodName := ⟨RX5, "hasWay", "(III)Z"⟩
abbrev cX5_fewestFor : ByteArray := prog_7_method_35_code
def yX5_fewestFor : MethodName := ⟨RX5, "fewestFor", "(I)I"⟩
abbrev cX5_worksOnBase : ByteArray := prog_7_method_36_code
def yX5_worksOnBase : MethodName := ⟨RX5, "worksOnBase", "(II)I"⟩
def RX6 : String := "SpellLayers$Search"
def TX6 : u_T := fun k => match k with
  | 0 => ("SpellLayers$Search", "labels", "[I", true)
  | 1 => ("SpellLayers$Search", "heap", "[I", true)
  | 2 => ("SpellLayers$Search", "seats", "[I", true)
  | _ => ("SpellLayers$Search", "waiting", "I", false)
def tyX6 : Nat → FieldType := fun k => match k with
  | 0 => .array .int
  | 1 => .array .int
  | 2 => .array .int
  | _ => .int
abbrev wsX60 : List Cond := u_ws RX6 TX6 4
theorem nmX6 : ∀ a, a < 4 → ∀ b, b < 4 → a ≠ b → (TX6 a).2.1 ≠ (TX6 b).2.1 := by decide +kernel
theorem tyX6_ok : ∀ k, k < 4 → parseFieldDescriptor (TX6 k).2.2.1 = some (tyX6 k) := by decide +kernel
abbrev cX6_init : ByteArray := prog_8_method_1_code
def yX6_init : MethodName := ⟨RX6, "<init>", "()V"⟩
abbrev cX6_costOf : ByteArray := prog_8_method_2_code
def yX6_costOf : MethodName := ⟨RX6, "costOf", "(I)I"⟩
abbrev cX6_firstOf : ByteArray := prog_8_method_3_code
def yX6_firstOf : MethodName := ⟨RX6, "firstOf", "(I)I"⟩
abbrev cX6_nearest : ByteArray := prog_8_method_4_code
def yX6_nearest : MethodName := ⟨RX6, "nearest", "(LSpellLayers$School;III)I"⟩
abbrev cX6_goOnFrom : ByteArray := prog_8_method_5_code
def yX6_goOnFrom : MethodName := ⟨RX6, "goOnFrom", "(LSpellLayers$School;II)V"⟩
abbrev cX6_offer : ByteArray := prog_8_method_6_code
def yX6_offer : MethodName := ⟨RX6, "offer", "(II)V"⟩
abbrev cX6_takeLeast : ByteArray := prog_8_method_7_code
def yX6_takeLeast : MethodName := ⟨RX6, "takeLeast", "()I"⟩
abbrev cX6_rise : ByteArray := prog_8_method_8_code
def yX6_rise : MethodName := ⟨RX6, "rise", "(II)V"⟩
abbrev cX6_sink : ByteArray := prog_8_method_9_code
def yX6_sink : MethodName := ⟨RX6, "sink", "(I)V"⟩
abbrev cX6_labelAt : ByteArray := prog_8_method_10_code
def yX6_labelAt : MethodName := ⟨RX6, "labelAt", "(I)I"⟩
abbrev cX6_sit : ByteArray := prog_8_method_11_code
def yX6_sit : MethodName := ⟨RX6, "sit", "(II)V"⟩
def RX7 : String := "SpellLayers$Shelf"
def TX7 : u_T := fun k => match k with
  | 0 => ("SpellLayers$Shelf", "rows", "[I", true)
  | 1 => ("SpellLayers$Shelf", "spent", "I", false)
  | 2 => ("SpellLayers$Shelf", "changedThing", "[I", true)
  | 3 => ("SpellLayers$Shelf", "rowAhead", "[I", true)
  | 4 => ("SpellLayers$Shelf", "spentAhead", "[I", true)
  | 5 => ("SpellLayers$Shelf", "known", "I", false)
  | 6 => ("SpellLayers$Shelf", "next", "I", false)
  | 7 => ("SpellLayers$Shelf", "imageRows", "[I", true)
  | 8 => ("SpellLayers$Shelf", "imageSpent", "[I", true)
  | _ => ("SpellLayers$Shelf", "imagesKept", "I", false)
def tyX7 : Nat → FieldType := fun k => match k with
  | 0 => .array .int
  | 1 => .int
  | 2 => .array .int
  | 3 => .array .int
  | 4 => .array .int
  | 5 => .int
  | 6 => .int
  | 7 => .array .int
  | 8 => .array .int
  | _ => .int
abbrev wsX70 : List Cond := u_ws RX7 TX7 10
theorem nmX7 : ∀ a, a < 10 → ∀ b, b < 10 → a ≠ b → (TX7 a).2.1 ≠ (TX7 b).2.1 := by decide +kernel
theorem tyX7_ok : ∀ k, k < 10 → parseFieldDescriptor (TX7 k).2.2.1 = some (tyX7 k) := by decide +kernel
abbrev cX7_init : ByteArray := prog_9_method_1_code
def yX7_init : MethodName := ⟨RX7, "<init>", "()V"⟩
abbrev cX7_startAs : ByteArray := prog_9_method_2_code
def yX7_startAs : MethodName := ⟨RX7, "startAs", "(LSpellLayers$School;)V"⟩
abbrev cX7_rowOf : ByteArray := prog_9_method_3_code
def yX7_rowOf : MethodName := ⟨RX7, "rowOf", "(I)I"⟩
abbrev cX7_spent : ByteArray := prog_9_method_4_code
def yX7_spent : MethodName := ⟨RX7, "spent", "()I"⟩
abbrev cX7_known : ByteArray := prog_9_method_5_code
def yX7_known : MethodName := ⟨RX7, "known", "()I"⟩
abbrev cX7_change : ByteArray := prog_9_method_6_code
def yX7_change : MethodName := ⟨RX7, "change", "(III)V"⟩
abbrev cX7_takeBack : ByteArray := prog_9_method_7_code
def yX7_takeBack : MethodName := ⟨RX7, "takeBack", "()Z"⟩
abbrev cX7_humming : ByteArray := prog_9_method_8_code
def yX7_humming : MethodName := ⟨RX7, "humming", "(LSpellLayers$School;)I"⟩
abbrev cX7_layers : ByteArray := prog_9_method_9_code
def yX7_layers : MethodName := ⟨RX7, "layers", "()I"⟩
abbrev cX7_layersWith : ByteArray := prog_9_method_10_code
def yX7_layersWith : MethodName := ⟨RX7, "layersWith", "(I)I"⟩
abbrev cX7_keepImage : ByteArray := prog_9_method_11_code
def yX7_keepImage : MethodName := ⟨RX7, "keepImage", "(I)V"⟩
abbrev cX7_becomeImage : ByteArray := prog_9_method_12_code
def yX7_becomeImage : MethodName := ⟨RX7, "becomeImage", "(I)Z"⟩
def RX8 : String := "SpellLayers"
def TX8 : u_T := fun k => match k with
  | 0 => ("SpellLayers", "reader", "LSpellLayers$Reader;", true)
  | 1 => ("SpellLayers", "shelf", "LSpellLayers$Shelf;", true)
  | 2 => ("SpellLayers", "search", "LSpellLayers$Search;", true)
  | 3 => ("SpellLayers", "hat", "LSpellLayers$Hat;", true)
  | 4 => ("SpellLayers", "kinds", "LSpellLayers$Kinds;", true)
  | 5 => ("SpellLayers", "told", "LSpellLayers$School;", false)
  | _ => ("SpellLayers", "draft", "LSpellLayers$School;", false)
def tyX8 : Nat → FieldType := fun k => match k with
  | 0 => .object "SpellLayers$Reader"
  | 1 => .object "SpellLayers$Shelf"
  | 2 => .object "SpellLayers$Search"
  | 3 => .object "SpellLayers$Hat"
  | 4 => .object "SpellLayers$Kinds"
  | 5 => .object "SpellLayers$School"
  | _ => .object "SpellLayers$School"
abbrev wsX80 : List Cond := u_ws RX8 TX8 7
theorem nmX8 : ∀ a, a < 7 → ∀ b, b < 7 → a ≠ b → (TX8 a).2.1 ≠ (TX8 b).2.1 := by decide +kernel
theorem tyX8_ok : ∀ k, k < 7 → parseFieldDescriptor (TX8 k).2.2.1 = some (tyX8 k) := by decide +kernel
abbrev cX8_init : ByteArray := prog_1_method_1_code
def yX8_init : MethodName := ⟨RX8, "<init>", "()V"⟩
abbrev cX8_type : ByteArray := prog_1_method_2_code
def yX8_type : MethodName := ⟨RX8, "type", "(JI)I"⟩
abbrev cX8_clear : ByteArray := prog_1_method_3_code
def yX8_clear : MethodName := ⟨RX8, "clear", "()I"⟩
abbrev cX8_school : ByteArray := prog_1_method_4_code
def yX8_school : MethodName := ⟨RX8, "school", "()I"⟩
abbrev cX8_spell : ByteArray := prog_1_method_5_code
def yX8_spell : MethodName := ⟨RX8, "spell", "(II)I"⟩
abbrev cX8_thing : ByteArray := prog_1_method_6_code
def yX8_thing : MethodName := ⟨RX8, "thing", "(II)I"⟩
abbrev cX8_layer : ByteArray := prog_1_method_7_code
def yX8_layer : MethodName := ⟨RX8, "layer", "(II)I"⟩
abbrev cX8_pupil : ByteArray := prog_1_method_8_code
def yX8_pupil : MethodName := ⟨RX8, "pupil", "(I)I"⟩
abbrev cX8_lay : ByteArray := prog_1_method_9_code
def yX8_lay : MethodName := ⟨RX8, "lay", "(III)I"⟩
abbrev cX8_lift : ByteArray := prog_1_method_10_code
def yX8_lift : MethodName := ⟨RX8, "lift", "(II)I"⟩
abbrev cX8_swap : ByteArray := prog_1_method_11_code
def yX8_swap : MethodName := ⟨RX8, "swap", "(II)I"⟩
abbrev cX8_copy : ByteArray := prog_1_method_12_code
def yX8_copy : MethodName := ⟨RX8, "copy", "(III)I"⟩
abbrev cX8_undo : ByteArray := prog_1_method_13_code
def yX8_undo : MethodName := ⟨RX8, "undo", "()I"⟩
abbrev cX8_now : ByteArray := prog_1_method_14_code
def yX8_now : MethodName := ⟨RX8, "now", "(I)I"⟩
abbrev cX8_cheapest : ByteArray := prog_1_method_15_code
def yX8_cheapest : MethodName := ⟨RX8, "cheapest", "(IIII)I"⟩
abbrev cX8_takes : ByteArray := prog_1_method_16_code
def yX8_takes : MethodName := ⟨RX8, "takes", "(II)I"⟩
abbrev cX8_learn : ByteArray := prog_1_method_17_code
def yX8_learn : MethodName := ⟨RX8, "learn", "(II)I"⟩
abbrev cX8_saw : ByteArray := prog_1_method_18_code
def yX8_saw : MethodName := ⟨RX8, "saw", "(II)I"⟩
abbrev cX8_forget : ByteArray := prog_1_method_19_code
def yX8_forget : MethodName := ⟨RX8, "forget", "()I"⟩
abbrev cX8_could : ByteArray := prog_1_method_20_code
def yX8_could : MethodName := ⟨RX8, "could", "()I"⟩
abbrev cX8_under : ByteArray := prog_1_method_21_code
def yX8_under : MethodName := ⟨RX8, "under", "(I)I"⟩
abbrev cX8_lifted : ByteArray := prog_1_method_22_code
def yX8_lifted : MethodName := ⟨RX8, "lifted", "()I"⟩
abbrev cX8_broom : ByteArray := prog_1_method_23_code
def yX8_broom : MethodName := ⟨RX8, "broom", "(IIIIII)I"⟩
abbrev cX8_odds : ByteArray := prog_1_method_24_code
def yX8_odds : MethodName := ⟨RX8, "odds", "(III)J"⟩
abbrev cX8_rate : ByteArray := prog_1_method_25_code
def yX8_rate : MethodName := ⟨RX8, "rate", "(II)I"⟩
abbrev cX8_keep : ByteArray := prog_1_method_26_code
def yX8_keep : MethodName := ⟨RX8, "keep", "(I)I"⟩
abbrev cX8_back : ByteArray := prog_1_method_27_code
def yX8_back : MethodName := ⟨RX8, "back", "(I)I"⟩
abbrev cX8_count : ByteArray := prog_1_method_28_code
def yX8_count : MethodName := ⟨RX8, "count", "(I)I"⟩
abbrev cX8_trace : ByteArray := prog_1_method_29_code
def yX8_trace : MethodName := ⟨RX8, "trace", "()J"⟩
abbrev cX8_isEffectSet : ByteArray := prog_1_method_30_code
def yX8_isEffectSet : MethodName := ⟨RX8, "isEffectSet", "(I)Z"⟩
abbrev cX8_isYesOrNo : ByteArray := prog_1_method_31_code
def yX8_isYesOrNo : MethodName := ⟨RX8, "isYesOrNo", "(I)Z"⟩
abbrev cX8_power : ByteArray := prog_1_method_32_code
def yX8_power : MethodName := ⟨RX8, "power", "(II)J"⟩
abbrev cX8_at : ByteArray := prog_1_method_33_code
def yX8_at : MethodName := ⟨RX8, "at", "([II)I"⟩
abbrev cX8_put : ByteArray := prog_1_method_34_code
def yX8_put : MethodName := ⟨RX8, "put", "([III)V"⟩
def RX9 : String := "SpellLayersModel"
def TX9 : u_T := fun k => match k with
  | 0 => ("SpellLayersModel", "thrown", "I", false)
  | 1 => ("SpellLayersModel", "trace", "J", false)
  | 2 => ("SpellLayersModel", "text", "[I", true)
  | 3 => ("SpellLayersModel", "typed", "I", false)
  | 4 => ("SpellLayersModel", "next", "I", false)
  | 5 => ("SpellLayersModel", "token", "I", false)
  | 6 => ("SpellLayersModel", "place", "I", false)
  | 7 => ("SpellLayersModel", "value", "I", false)
  | 8 => ("SpellLayersModel", "fault", "I", false)
  | 9 => ("SpellLayersModel", "spell", "[I", true)
  | 10 => ("SpellLayersModel", "thing", "[I", true)
  | 11 => ("SpellLayersModel", "pupil", "[I", true)
  | 12 => ("SpellLayersModel", "rules", "[I", true)
  | 13 => ("SpellLayersModel", "spells", "I", false)
  | 14 => ("SpellLayersModel", "things", "I", false)
  | 15 => ("SpellLayersModel", "pupils", "I", false)
  | 16 => ("SpellLayersModel", "draftSpells", "I", false)
  | 17 => ("SpellLayersModel", "draftThings", "I", false)
  | 18 => ("SpellLayersModel", "draftPupils", "I", false)
  | 19 => ("SpellLayersModel", "s", "[I", true)
  | 20 => ("SpellLayersModel", "kept", "[I", true)
  | 21 => ("SpellLayersModel", "isKept", "[Z", true)
  | 22 => ("SpellLayersModel", "undos", "[I", true)
  | 23 => ("SpellLayersModel", "undoMany", "I", false)
  | 24 => ("SpellLayersModel", "seenBy", "[I", true)
  | 25 => ("SpellLayersModel", "seen", "[I", true)
  | 26 => ("SpellLayersModel", "seenMany", "I", false)
  | 27 => ("SpellLayersModel", "ways", "[I", true)
  | 28 => ("SpellLayersModel", "valid", "[Z", true)
  | 29 => ("SpellLayersModel", "says", "[Z", true)
  | 30 => ("SpellLayersModel", "asked", "I", false)
  | 31 => ("SpellLayersModel", "groups", "[I", true)
  | 32 => ("SpellLayersModel", "board", "[I", true)
  | 33 => ("SpellLayersModel", "pick", "[I", true)
  | _ => ("SpellLayersModel", "worth", "[I", true)
def tyX9 : Nat → FieldType := fun k => match k with
  | 0 => .int
  | 1 => .long
  | 2 => .array .int
  | 3 => .int
  | 4 => .int
  | 5 => .int
  | 6 => .int
  | 7 => .int
  | 8 => .int
  | 9 => .array .int
  | 10 => .array .int
  | 11 => .array .int
  | 12 => .array .int
  | 13 => .int
  | 14 => .int
  | 15 => .int
  | 16 => .int
  | 17 => .int
  | 18 => .int
  | 19 => .array .int
  | 20 => .array .int
  | 21 => .array .boolean
  | 22 => .array .int
  | 23 => .int
  | 24 => .array .int
  | 25 => .array .int
  | 26 => .int
  | 27 => .array .int
  | 28 => .array .boolean
  | 29 => .array .boolean
  | 30 => .int
  | 31 => .array .int
  | 32 => .array .int
  | 33 => .array .int
  | _ => .array .int
abbrev wsX90 : List Cond := u_ws RX9 TX9 35
theorem nmX9 : ∀ a, a < 35 → ∀ b, b < 35 → a ≠ b → (TX9 a).2.1 ≠ (TX9 b).2.1 := by decide +kernel
theorem tyX9_ok : ∀ k, k < 35 → parseFieldDescriptor (TX9 k).2.2.1 = some (tyX9 k) := by decide +kernel
abbrev cX9_init : ByteArray := prog_11_method_1_code
def yX9_init : MethodName := ⟨RX9, "<init>", "()V"⟩
abbrev cX9_in : ByteArray := prog_11_method_3_code
def yX9_in : MethodName := ⟨RX9, "in", "(III)Z"⟩
abbrev cX9_ones : ByteArray := prog_11_method_4_code
def yX9_ones : MethodName := ⟨RX9, "ones", "(I)I"⟩
abbrev cX9_type : ByteArray := prog_11_method_5_code
def yX9_type : MethodName := ⟨RX9, "type", "(JI)I"⟩
abbrev cX9_clear : ByteArray := prog_11_method_6_code
def yX9_clear : MethodName := ⟨RX9, "clear", "()I"⟩
abbrev cX9_byteAt : ByteArray := prog_11_method_7_code
def yX9_byteAt : MethodName := ⟨RX9, "byteAt", "(I)I"⟩
abbrev cX9_add : ByteArray := prog_11_method_8_code
def yX9_add : MethodName := ⟨RX9, "add", "(JI)J"⟩
abbrev cX9_named : ByteArray := prog_11_method_9_code
def yX9_named : MethodName := ⟨RX9, "named", "(IIIII)J"⟩
abbrev cX9_wordOf : ByteArray := prog_11_method_10_code
def yX9_wordOf : MethodName := ⟨RX9, "wordOf", "(J)I"⟩
abbrev cX9_advances : ByteArray := prog_11_method_11_code
def yX9_advances : MethodName := ⟨RX9, "advances", "()V"⟩
abbrev cX9_isWell : ByteArray := prog_11_method_12_code
def yX9_isWell : MethodName := ⟨RX9, "isWell", "()Z"⟩
abbrev cX9_takes : ByteArray := prog_11_method_13_code
def yX9_takes : MethodName := ⟨RX9, "takes", "(Z)I"⟩
abbrev cX9_number : ByteArray := prog_11_method_14_code
def yX9_number : MethodName := ⟨RX9, "number", "(II)I"⟩
abbrev cX9_mayBegin : ByteArray := prog_11_method_15_code
def yX9_mayBegin : MethodName := ⟨RX9, "mayBegin", "()Z"⟩
abbrev cX9_readsItem : ByteArray := prog_11_method_16_code
def yX9_readsItem : MethodName := ⟨RX9, "readsItem", "(I)V"⟩
abbrev cX9_school : ByteArray := prog_11_method_17_code
def yX9_school : MethodName := ⟨RX9, "school", "()I"⟩
abbrev cX9_settles : ByteArray := prog_11_method_18_code
def yX9_settles : MethodName := ⟨RX9, "settles", "()V"⟩
abbrev cX9_isSpell : ByteArray := prog_11_method_19_code
def yX9_isSpell : MethodName := ⟨RX9, "isSpell", "(I)Z"⟩
abbrev cX9_isThing : ByteArray := prog_11_method_20_code
def yX9_isThing : MethodName := ⟨RX9, "isThing", "(I)Z"⟩
abbrev cX9_isPupil : ByteArray := prog_11_method_21_code
def yX9_isPupil : MethodName := ⟨RX9, "isPupil", "(I)Z"⟩
abbrev cX9_spell : ByteArray := prog_11_method_22_code
def yX9_spell : MethodName := ⟨RX9, "spell", "(II)I"⟩
abbrev cX9_layersOf : ByteArray := prog_11_method_23_code
def yX9_layersOf : MethodName := ⟨RX9, "layersOf", "(I)I"⟩
abbrev cX9_worksOf : ByteArray := prog_11_method_24_code
def yX9_worksOf : MethodName := ⟨RX9, "worksOf", "(I)I"⟩
abbrev cX9_thing : ByteArray := prog_11_method_25_code
def yX9_thing : MethodName := ⟨RX9, "thing", "(II)I"⟩
abbrev cX9_spellAt : ByteArray := prog_11_method_26_code
def yX9_spellAt : MethodName := ⟨RX9, "spellAt", "(II)I"⟩
abbrev cX9_layer : ByteArray := prog_11_method_27_code
def yX9_layer : MethodName := ⟨RX9, "layer", "(II)I"⟩
abbrev cX9_pupil : ByteArray := prog_11_method_28_code
def yX9_pupil : MethodName := ⟨RX9, "pupil", "(I)I"⟩
abbrev cX9_may : ByteArray := prog_11_method_29_code
def yX9_may : MethodName := ⟨RX9, "may", "(II)Z"⟩
abbrev cX9_becomes : ByteArray := prog_11_method_30_code
def yX9_becomes : MethodName := ⟨RX9, "becomes", "(III)V"⟩
abbrev cX9_lay : ByteArray := prog_11_method_31_code
def yX9_lay : MethodName := ⟨RX9, "lay", "(III)I"⟩
abbrev cX9_lift : ByteArray := prog_11_method_32_code
def yX9_lift : MethodName := ⟨RX9, "lift", "(II)I"⟩
abbrev cX9_swapped : ByteArray := prog_11_method_33_code
def yX9_swapped : MethodName := ⟨RX9, "swapped", "(I)I"⟩
abbrev cX9_swap : ByteArray := prog_11_method_34_code
def yX9_swap : MethodName := ⟨RX9, "swap", "(II)I"⟩
abbrev cX9_copy : ByteArray := prog_11_method_35_code
def yX9_copy : MethodName := ⟨RX9, "copy", "(III)I"⟩
abbrev cX9_undo : ByteArray := prog_11_method_36_code
def yX9_undo : MethodName := ⟨RX9, "undo", "()I"⟩
abbrev cX9_now : ByteArray := prog_11_method_37_code
def yX9_now : MethodName := ⟨RX9, "now", "(I)I"⟩
abbrev cX9_canSay : ByteArray := prog_11_method_38_code
def yX9_canSay : MethodName := ⟨RX9, "canSay", "(III)Z"⟩
abbrev cX9_said : ByteArray := prog_11_method_39_code
def yX9_said : MethodName := ⟨RX9, "said", "(III)I"⟩
abbrev cX9_costOf : ByteArray := prog_11_method_40_code
def yX9_costOf : MethodName := ⟨RX9, "costOf", "(II)I"⟩
abbrev cX9_isRow : ByteArray := prog_11_method_41_code
def yX9_isRow : MethodName := ⟨RX9, "isRow", "(I)Z"⟩
abbrev cX9_wayFrom : ByteArray := prog_11_method_42_code
def yX9_wayFrom : MethodName := ⟨RX9, "wayFrom", "(II)I"⟩
abbrev cX9_sweeps : ByteArray := prog_11_method_43_code
def yX9_sweeps : MethodName := ⟨RX9, "sweeps", "(II)V"⟩
abbrev cX9_cheapest : ByteArray := prog_11_method_44_code
def yX9_cheapest : MethodName := ⟨RX9, "cheapest", "(IIII)I"⟩
abbrev cX9_takes_ : ByteArray := prog_11_method_45_code
def yX9_takes_ : MethodName := ⟨RX9, "takes", "(II)I"⟩
abbrev cX9_spellsIn : ByteArray := prog_11_method_46_code
def yX9_spellsIn : MethodName := ⟨RX9, "spellsIn", "(I)I"⟩
abbrev cX9_learn : ByteArray := prog_11_method_47_code
def yX9_learn : MethodName := ⟨RX9, "learn", "(II)I"⟩
abbrev cX9_saw : ByteArray := prog_11_method_48_code
def yX9_saw : MethodName := ⟨RX9, "saw", "(II)I"⟩
abbrev cX9_forget : ByteArray := prog_11_method_49_code
def yX9_forget : MethodName := ⟨RX9, "forget", "()I"⟩
abbrev cX9_withoutTop : ByteArray := prog_11_method_50_code
def yX9_withoutTop : MethodName := ⟨RX9, "withoutTop", "(II)I"⟩
abbrev cX9_isHat : ByteArray := prog_11_method_51_code
def yX9_isHat : MethodName := ⟨RX9, "isHat", "(I)Z"⟩
abbrev cX9_could : ByteArray := prog_11_method_52_code
def yX9_could : MethodName := ⟨RX9, "could", "()I"⟩
abbrev cX9_under : ByteArray := prog_11_method_53_code
def yX9_under : MethodName := ⟨RX9, "under", "(I)I"⟩
abbrev cX9_atWorst : ByteArray := prog_11_method_54_code
def yX9_atWorst : MethodName := ⟨RX9, "atWorst", "(I)I"⟩
abbrev cX9_lifted : ByteArray := prog_11_method_55_code
def yX9_lifted : MethodName := ⟨RX9, "lifted", "()I"⟩
abbrev cX9_folds : ByteArray := prog_11_method_56_code
def yX9_folds : MethodName := ⟨RX9, "folds", "(II)V"⟩
abbrev cX9_played : ByteArray := prog_11_method_57_code
def yX9_played : MethodName := ⟨RX9, "played", "(IIIII)I"⟩
abbrev cX9_broom : ByteArray := prog_11_method_58_code
def yX9_broom : MethodName := ⟨RX9, "broom", "(IIIIII)I"⟩
abbrev cX9_gcd : ByteArray := prog_11_method_59_code
def yX9_gcd : MethodName := ⟨RX9, "gcd", "(JJ)J"⟩
abbrev cX9_odds : ByteArray := prog_11_method_60_code
def yX9_odds : MethodName := ⟨RX9, "odds", "(III)J"⟩
abbrev cX9_rate : ByteArray := prog_11_method_61_code
def yX9_rate : MethodName := ⟨RX9, "rate", "(II)I"⟩
abbrev cX9_keep : ByteArray := prog_11_method_62_code
def yX9_keep : MethodName := ⟨RX9, "keep", "(I)I"⟩
abbrev cX9_back : ByteArray := prog_11_method_63_code
def yX9_back : MethodName := ⟨RX9, "back", "(I)I"⟩
abbrev cX9_count : ByteArray := prog_11_method_64_code
def yX9_count : MethodName := ⟨RX9, "count", "(I)I"⟩
abbrev cX9_trace : ByteArray := prog_11_method_65_code
def yX9_trace : MethodName := ⟨RX9, "trace", "()J"⟩
def RJx145de : String := "java/io/Serializable"
def RJx9f9b0 : String := "java/lang/CharSequence"
def RJxb160c : String := "java/lang/Comparable"
def RJ6 : String := "java/lang/Integer"
abbrev cJ6_bitCount_0f7a4 : ByteArray := prog_12_method_49_code
def yJ6_bitCount_0f7a4 : MethodName := ⟨RJ6, "bitCount", "(I)I"⟩
def RJ9 : String := "java/lang/Math"
abbrev cJ9_max_7cf53 : ByteArray := prog_13_method_65_code
def yJ9_max_7cf53 : MethodName := ⟨RJ9, "max", "(II)I"⟩
abbrev cJ9_min_7cf53 : ByteArray := prog_13_method_69_code
def yJ9_min_7cf53 : MethodName := ⟨RJ9, "min", "(II)I"⟩
def RJ0 : String := "java/lang/String"
abbrev cJ0_length_8abf5 : ByteArray := prog_14_method_54_code
def yJ0_length_8abf5 : MethodName := ⟨RJ0, "length", "()I"⟩
abbrev cJ0_charAt_5068e : ByteArray := prog_14_method_56_code
def yJ0_charAt_5068e : MethodName := ⟨RJ0, "charAt", "(I)C"⟩
abbrev cJ0_coder_7d493 : ByteArray := prog_14_method_152_code
def yJ0_coder_7d493 : MethodName := ⟨RJ0, "coder", "()B"⟩
abbrev cJ0_isLatin1_aae02 : ByteArray := prog_14_method_154_code
def yJ0_isLatin1_aae02 : MethodName := ⟨RJ0, "isLatin1", "()Z"⟩
abbrev cJ0_checkIndex_df160 : ByteArray := prog_14_method_155_code
def yJ0_checkIndex_df160 : MethodName := ⟨RJ0, "checkIndex", "(II)V"⟩
def RJ1 : String := "java/lang/StringLatin1"
abbrev cJ1_charAt_3b067 : ByteArray := prog_15_method_2_code
def yJ1_charAt_3b067 : MethodName := ⟨RJ1, "charAt", "([BI)C"⟩
def RJ2 : String := "java/lang/StringUTF16"
abbrev cJ2_getChar_3b067 : ByteArray := prog_16_method_5_code
def yJ2_getChar_3b067 : MethodName := ⟨RJ2, "getChar", "([BI)C"⟩
abbrev cJ2_length_9d52b : ByteArray := prog_16_method_6_code
def yJ2_length_9d52b : MethodName := ⟨RJ2, "length", "([B)I"⟩
abbrev cJ2_charAt_3b067 : ByteArray := prog_16_method_83_code
def yJ2_charAt_3b067 : MethodName := ⟨RJ2, "charAt", "([BI)C"⟩
abbrev cJ2_checkIndex_2214a : ByteArray := prog_16_method_91_code
def yJ2_checkIndex_2214a : MethodName := ⟨RJ2, "checkIndex", "(I[B)V"⟩
def RJxfd54e : String := "java/lang/constant/Constable"
def RJx3cf43 : String := "java/lang/constant/ConstantDesc"
def RJ7 : String := "java/util/Arrays"
abbrev cJ7_fill_53178 : ByteArray := prog_17_method_103_code
def yJ7_fill_53178 : MethodName := ⟨RJ7, "fill", "([II)V"⟩
def RJ3 : String := "jdk/internal/util/Preconditions"
abbrev cJ3_checkIndex_8e157 : ByteArray := prog_18_method_11_code
def yJ3_checkIndex_8e157 : MethodName := ⟨RJ3, "checkIndex", "(IILjava/util/function/BiFunction;)I"⟩
def RL : String := "SpellLayersLaw"
abbrev cL_law : ByteArray := code
def yL_law : MethodName := ⟨RL, "law", "([I)Z"⟩
abbrev vwCl : List vw_C := [(RX1, TX1, 4), (RX2, TX2, 1), (RX3, TX3, 11), (RX5, TX5, 12), (RX6, TX6, 4), (RX7, TX7, 10), (RX8, TX8, 7), (RX9, TX9, 35)]
