-- ===== PART A: goes FIRST, ahead of the names: the tables' words, and 'selects' of the private methods out of them =====
/-- a private method of a class that the tables say can be made, by its rows of tables_1 -/
def lw_okq (q : MethodName × Nat) : Prop := (q.1.cls ≠ "java/lang/invoke/MethodHandle" ∧ q.1.cls ≠ "java/lang/invoke/VarHandle") ∧ Cond.instantiable q.1.cls q.2 ∈ tables_1 ∧ Cond.privateMethod q.1 ∈ tables_1 ∧ Cond.instanceMethod q.1 ∈ tables_1
theorem lw_p0 : lw_okq (⟨"MoleSecrets", "cellFact", "(II)I"⟩, 7) := ⟨⟨by decide +kernel, by decide +kernel⟩, List.mem_of_getElem? (i := 22) (by decide +kernel), List.mem_of_getElem? (i := 232) (by decide +kernel), List.mem_of_getElem? (i := 233) (by decide +kernel)⟩
theorem lw_p1 : lw_okq (⟨"MoleSecrets", "isMole", "(I)Z"⟩, 7) := ⟨⟨by decide +kernel, by decide +kernel⟩, List.mem_of_getElem? (i := 22) (by decide +kernel), List.mem_of_getElem? (i := 303) (by decide +kernel), List.mem_of_getElem? (i := 304) (by decide +kernel)⟩
theorem lw_p2 : lw_okq (⟨"MoleSecrets", "moleFact", "(II)I"⟩, 7) := ⟨⟨by decide +kernel, by decide +kernel⟩, List.mem_of_getElem? (i := 22) (by decide +kernel), List.mem_of_getElem? (i := 307) (by decide +kernel), List.mem_of_getElem? (i := 308) (by decide +kernel)⟩
theorem lw_p3 : lw_okq (⟨"MoleSecrets", "foundWithin", "(I)I"⟩, 7) := ⟨⟨by decide +kernel, by decide +kernel⟩, List.mem_of_getElem? (i := 22) (by decide +kernel), List.mem_of_getElem? (i := 512) (by decide +kernel), List.mem_of_getElem? (i := 513) (by decide +kernel)⟩
theorem lw_p4 : lw_okq (⟨"MoleSecrets", "sheetFinding", "(I)I"⟩, 7) := ⟨⟨by decide +kernel, by decide +kernel⟩, List.mem_of_getElem? (i := 22) (by decide +kernel), List.mem_of_getElem? (i := 749) (by decide +kernel), List.mem_of_getElem? (i := 750) (by decide +kernel)⟩
theorem lw_p5 : lw_okq (⟨"MoleSecrets", "goesAs", "(ILMoleSecrets$Sheet;)Z"⟩, 7) := ⟨⟨by decide +kernel, by decide +kernel⟩, List.mem_of_getElem? (i := 22) (by decide +kernel), List.mem_of_getElem? (i := 762) (by decide +kernel), List.mem_of_getElem? (i := 763) (by decide +kernel)⟩
theorem lw_p6 : lw_okq (⟨"MoleSecretsModel", "becomes", "(II)I"⟩, 17) := ⟨⟨by decide +kernel, by decide +kernel⟩, List.mem_of_getElem? (i := 790) (by decide +kernel), List.mem_of_getElem? (i := 863) (by decide +kernel), List.mem_of_getElem? (i := 864) (by decide +kernel)⟩
theorem lw_p7 : lw_okq (⟨"MoleSecretsModel", "finds", "(I)I"⟩, 17) := ⟨⟨by decide +kernel, by decide +kernel⟩, List.mem_of_getElem? (i := 790) (by decide +kernel), List.mem_of_getElem? (i := 868) (by decide +kernel), List.mem_of_getElem? (i := 869) (by decide +kernel)⟩
theorem lw_p8 : lw_okq (⟨"MoleSecretsModel", "molesAt", "(I)I"⟩, 17) := ⟨⟨by decide +kernel, by decide +kernel⟩, List.mem_of_getElem? (i := 790) (by decide +kernel), List.mem_of_getElem? (i := 877) (by decide +kernel), List.mem_of_getElem? (i := 878) (by decide +kernel)⟩
theorem lw_p9 : lw_okq (⟨"MoleSecretsModel", "its", "(II)I"⟩, 17) := ⟨⟨by decide +kernel, by decide +kernel⟩, List.mem_of_getElem? (i := 790) (by decide +kernel), List.mem_of_getElem? (i := 881) (by decide +kernel), List.mem_of_getElem? (i := 882) (by decide +kernel)⟩
theorem lw_p10 : lw_okq (⟨"MoleSecretsModel", "secretsAt", "(I)I"⟩, 17) := ⟨⟨by decide +kernel, by decide +kernel⟩, List.mem_of_getElem? (i := 790) (by decide +kernel), List.mem_of_getElem? (i := 888) (by decide +kernel), List.mem_of_getElem? (i := 889) (by decide +kernel)⟩
theorem lw_p11 : lw_okq (⟨"MoleSecretsModel", "puts", "(II)I"⟩, 17) := ⟨⟨by decide +kernel, by decide +kernel⟩, List.mem_of_getElem? (i := 790) (by decide +kernel), List.mem_of_getElem? (i := 901) (by decide +kernel), List.mem_of_getElem? (i := 902) (by decide +kernel)⟩
theorem lw_p12 : lw_okq (⟨"MoleSecretsModel", "dugOnes", "()I"⟩, 17) := ⟨⟨by decide +kernel, by decide +kernel⟩, List.mem_of_getElem? (i := 790) (by decide +kernel), List.mem_of_getElem? (i := 913) (by decide +kernel), List.mem_of_getElem? (i := 914) (by decide +kernel)⟩
theorem lw_p13 : lw_okq (⟨"MoleSecretsModel", "heaps", "()I"⟩, 17) := ⟨⟨by decide +kernel, by decide +kernel⟩, List.mem_of_getElem? (i := 790) (by decide +kernel), List.mem_of_getElem? (i := 917) (by decide +kernel), List.mem_of_getElem? (i := 918) (by decide +kernel)⟩
theorem lw_p14 : lw_okq (⟨"MoleSecretsModel", "hands", "()I"⟩, 17) := ⟨⟨by decide +kernel, by decide +kernel⟩, List.mem_of_getElem? (i := 790) (by decide +kernel), List.mem_of_getElem? (i := 921) (by decide +kernel), List.mem_of_getElem? (i := 922) (by decide +kernel)⟩
theorem lw_p15 : lw_okq (⟨"MoleSecretsModel", "addsMole", "(III)I"⟩, 17) := ⟨⟨by decide +kernel, by decide +kernel⟩, List.mem_of_getElem? (i := 790) (by decide +kernel), List.mem_of_getElem? (i := 933) (by decide +kernel), List.mem_of_getElem? (i := 934) (by decide +kernel)⟩
def lw_privs_1 : List (MethodName × Nat) := [(⟨"MoleSecrets", "cellFact", "(II)I"⟩, 7), (⟨"MoleSecrets", "isMole", "(I)Z"⟩, 7), (⟨"MoleSecrets", "moleFact", "(II)I"⟩, 7), (⟨"MoleSecrets", "foundWithin", "(I)I"⟩, 7), (⟨"MoleSecrets", "sheetFinding", "(I)I"⟩, 7), (⟨"MoleSecrets", "goesAs", "(ILMoleSecrets$Sheet;)Z"⟩, 7), (⟨"MoleSecretsModel", "becomes", "(II)I"⟩, 17), (⟨"MoleSecretsModel", "finds", "(I)I"⟩, 17), (⟨"MoleSecretsModel", "molesAt", "(I)I"⟩, 17), (⟨"MoleSecretsModel", "its", "(II)I"⟩, 17), (⟨"MoleSecretsModel", "secretsAt", "(I)I"⟩, 17), (⟨"MoleSecretsModel", "puts", "(II)I"⟩, 17), (⟨"MoleSecretsModel", "dugOnes", "()I"⟩, 17), (⟨"MoleSecretsModel", "heaps", "()I"⟩, 17), (⟨"MoleSecretsModel", "hands", "()I"⟩, 17), (⟨"MoleSecretsModel", "addsMole", "(III)I"⟩, 17)]
theorem lw_r1 : ∀ q ∈ lw_privs_1, lw_okq q := List.forall_mem_cons.mpr ⟨lw_p0, List.forall_mem_cons.mpr ⟨lw_p1, List.forall_mem_cons.mpr ⟨lw_p2, List.forall_mem_cons.mpr ⟨lw_p3, List.forall_mem_cons.mpr ⟨lw_p4, List.forall_mem_cons.mpr ⟨lw_p5, List.forall_mem_cons.mpr ⟨lw_p6, List.forall_mem_cons.mpr ⟨lw_p7, List.forall_mem_cons.mpr ⟨lw_p8, List.forall_mem_cons.mpr ⟨lw_p9, List.forall_mem_cons.mpr ⟨lw_p10, List.forall_mem_cons.mpr ⟨lw_p11, List.forall_mem_cons.mpr ⟨lw_p12, List.forall_mem_cons.mpr ⟨lw_p13, List.forall_mem_cons.mpr ⟨lw_p14, List.forall_mem_cons.mpr ⟨lw_p15, fun _ h => absurd h List.not_mem_nil⟩⟩⟩⟩⟩⟩⟩⟩⟩⟩⟩⟩⟩⟩⟩⟩
theorem lw_p16 : lw_okq (⟨"MoleSecretsModel", "isMole", "(I)Z"⟩, 17) := ⟨⟨by decide +kernel, by decide +kernel⟩, List.mem_of_getElem? (i := 790) (by decide +kernel), List.mem_of_getElem? (i := 941) (by decide +kernel), List.mem_of_getElem? (i := 942) (by decide +kernel)⟩
theorem lw_p17 : lw_okq (⟨"MoleSecretsModel", "stepsOf", "(I)I"⟩, 17) := ⟨⟨by decide +kernel, by decide +kernel⟩, List.mem_of_getElem? (i := 790) (by decide +kernel), List.mem_of_getElem? (i := 946) (by decide +kernel), List.mem_of_getElem? (i := 947) (by decide +kernel)⟩
theorem lw_p18 : lw_okq (⟨"MoleSecretsModel", "digsOf", "(I)I"⟩, 17) := ⟨⟨by decide +kernel, by decide +kernel⟩, List.mem_of_getElem? (i := 790) (by decide +kernel), List.mem_of_getElem? (i := 950) (by decide +kernel), List.mem_of_getElem? (i := 951) (by decide +kernel)⟩
theorem lw_p19 : lw_okq (⟨"MoleSecretsModel", "isTurningFirst", "(I)Z"⟩, 17) := ⟨⟨by decide +kernel, by decide +kernel⟩, List.mem_of_getElem? (i := 790) (by decide +kernel), List.mem_of_getElem? (i := 954) (by decide +kernel), List.mem_of_getElem? (i := 955) (by decide +kernel)⟩
theorem lw_p20 : lw_okq (⟨"MoleSecretsModel", "forCell", "(I)I"⟩, 17) := ⟨⟨by decide +kernel, by decide +kernel⟩, List.mem_of_getElem? (i := 790) (by decide +kernel), List.mem_of_getElem? (i := 962) (by decide +kernel), List.mem_of_getElem? (i := 963) (by decide +kernel)⟩
theorem lw_p21 : lw_okq (⟨"MoleSecretsModel", "forSecret", "(I)I"⟩, 17) := ⟨⟨by decide +kernel, by decide +kernel⟩, List.mem_of_getElem? (i := 790) (by decide +kernel), List.mem_of_getElem? (i := 966) (by decide +kernel), List.mem_of_getElem? (i := 967) (by decide +kernel)⟩
theorem lw_p22 : lw_okq (⟨"MoleSecretsModel", "minutesGo", "(I)V"⟩, 17) := ⟨⟨by decide +kernel, by decide +kernel⟩, List.mem_of_getElem? (i := 790) (by decide +kernel), List.mem_of_getElem? (i := 994) (by decide +kernel), List.mem_of_getElem? (i := 995) (by decide +kernel)⟩
theorem lw_p23 : lw_okq (⟨"MoleSecretsModel", "minute", "()V"⟩, 17) := ⟨⟨by decide +kernel, by decide +kernel⟩, List.mem_of_getElem? (i := 790) (by decide +kernel), List.mem_of_getElem? (i := 998) (by decide +kernel), List.mem_of_getElem? (i := 999) (by decide +kernel)⟩
theorem lw_p24 : lw_okq (⟨"MoleSecretsModel", "looks", "(I)V"⟩, 17) := ⟨⟨by decide +kernel, by decide +kernel⟩, List.mem_of_getElem? (i := 790) (by decide +kernel), List.mem_of_getElem? (i := 1002) (by decide +kernel), List.mem_of_getElem? (i := 1003) (by decide +kernel)⟩
theorem lw_p25 : lw_okq (⟨"MoleSecretsModel", "bringsOut", "(I)V"⟩, 17) := ⟨⟨by decide +kernel, by decide +kernel⟩, List.mem_of_getElem? (i := 790) (by decide +kernel), List.mem_of_getElem? (i := 1006) (by decide +kernel), List.mem_of_getElem? (i := 1007) (by decide +kernel)⟩
theorem lw_p26 : lw_okq (⟨"MoleSecretsModel", "isPaid", "(II)V"⟩, 17) := ⟨⟨by decide +kernel, by decide +kernel⟩, List.mem_of_getElem? (i := 790) (by decide +kernel), List.mem_of_getElem? (i := 1013) (by decide +kernel), List.mem_of_getElem? (i := 1014) (by decide +kernel)⟩
theorem lw_p27 : lw_okq (⟨"MoleSecretsModel", "picksUp", "(I)V"⟩, 17) := ⟨⟨by decide +kernel, by decide +kernel⟩, List.mem_of_getElem? (i := 790) (by decide +kernel), List.mem_of_getElem? (i := 1017) (by decide +kernel), List.mem_of_getElem? (i := 1018) (by decide +kernel)⟩
theorem lw_p28 : lw_okq (⟨"MoleSecretsModel", "aimOf", "(I)I"⟩, 17) := ⟨⟨by decide +kernel, by decide +kernel⟩, List.mem_of_getElem? (i := 790) (by decide +kernel), List.mem_of_getElem? (i := 1021) (by decide +kernel), List.mem_of_getElem? (i := 1022) (by decide +kernel)⟩
theorem lw_p29 : lw_okq (⟨"MoleSecretsModel", "step", "(I)V"⟩, 17) := ⟨⟨by decide +kernel, by decide +kernel⟩, List.mem_of_getElem? (i := 790) (by decide +kernel), List.mem_of_getElem? (i := 1025) (by decide +kernel), List.mem_of_getElem? (i := 1026) (by decide +kernel)⟩
theorem lw_p30 : lw_okq (⟨"MoleSecretsModel", "nextTo", "(II)I"⟩, 17) := ⟨⟨by decide +kernel, by decide +kernel⟩, List.mem_of_getElem? (i := 790) (by decide +kernel), List.mem_of_getElem? (i := 1029) (by decide +kernel), List.mem_of_getElem? (i := 1030) (by decide +kernel)⟩
theorem lw_p31 : lw_okq (⟨"MoleSecretsModel", "isDug", "(I)Z"⟩, 17) := ⟨⟨by decide +kernel, by decide +kernel⟩, List.mem_of_getElem? (i := 790) (by decide +kernel), List.mem_of_getElem? (i := 1033) (by decide +kernel), List.mem_of_getElem? (i := 1034) (by decide +kernel)⟩
def lw_privs_2 : List (MethodName × Nat) := [(⟨"MoleSecretsModel", "isMole", "(I)Z"⟩, 17), (⟨"MoleSecretsModel", "stepsOf", "(I)I"⟩, 17), (⟨"MoleSecretsModel", "digsOf", "(I)I"⟩, 17), (⟨"MoleSecretsModel", "isTurningFirst", "(I)Z"⟩, 17), (⟨"MoleSecretsModel", "forCell", "(I)I"⟩, 17), (⟨"MoleSecretsModel", "forSecret", "(I)I"⟩, 17), (⟨"MoleSecretsModel", "minutesGo", "(I)V"⟩, 17), (⟨"MoleSecretsModel", "minute", "()V"⟩, 17), (⟨"MoleSecretsModel", "looks", "(I)V"⟩, 17), (⟨"MoleSecretsModel", "bringsOut", "(I)V"⟩, 17), (⟨"MoleSecretsModel", "isPaid", "(II)V"⟩, 17), (⟨"MoleSecretsModel", "picksUp", "(I)V"⟩, 17), (⟨"MoleSecretsModel", "aimOf", "(I)I"⟩, 17), (⟨"MoleSecretsModel", "step", "(I)V"⟩, 17), (⟨"MoleSecretsModel", "nextTo", "(II)I"⟩, 17), (⟨"MoleSecretsModel", "isDug", "(I)Z"⟩, 17)]
theorem lw_r2 : ∀ q ∈ lw_privs_2, lw_okq q := List.forall_mem_cons.mpr ⟨lw_p16, List.forall_mem_cons.mpr ⟨lw_p17, List.forall_mem_cons.mpr ⟨lw_p18, List.forall_mem_cons.mpr ⟨lw_p19, List.forall_mem_cons.mpr ⟨lw_p20, List.forall_mem_cons.mpr ⟨lw_p21, List.forall_mem_cons.mpr ⟨lw_p22, List.forall_mem_cons.mpr ⟨lw_p23, List.forall_mem_cons.mpr ⟨lw_p24, List.forall_mem_cons.mpr ⟨lw_p25, List.forall_mem_cons.mpr ⟨lw_p26, List.forall_mem_cons.mpr ⟨lw_p27, List.forall_mem_cons.mpr ⟨lw_p28, List.forall_mem_cons.mpr ⟨lw_p29, List.forall_mem_cons.mpr ⟨lw_p30, List.forall_mem_cons.mpr ⟨lw_p31, fun _ h => absurd h List.not_mem_nil⟩⟩⟩⟩⟩⟩⟩⟩⟩⟩⟩⟩⟩⟩⟩⟩
theorem lw_p32 : lw_okq (⟨"MoleSecretsModel", "behind", "(II)I"⟩, 17) := ⟨⟨by decide +kernel, by decide +kernel⟩, List.mem_of_getElem? (i := 790) (by decide +kernel), List.mem_of_getElem? (i := 1046) (by decide +kernel), List.mem_of_getElem? (i := 1047) (by decide +kernel)⟩
theorem lw_p33 : lw_okq (⟨"MoleSecretsModel", "laysAside", "()V"⟩, 17) := ⟨⟨by decide +kernel, by decide +kernel⟩, List.mem_of_getElem? (i := 790) (by decide +kernel), List.mem_of_getElem? (i := 1050) (by decide +kernel), List.mem_of_getElem? (i := 1051) (by decide +kernel)⟩
theorem lw_p34 : lw_okq (⟨"MoleSecretsModel", "takesBack", "(I)I"⟩, 17) := ⟨⟨by decide +kernel, by decide +kernel⟩, List.mem_of_getElem? (i := 790) (by decide +kernel), List.mem_of_getElem? (i := 1054) (by decide +kernel), List.mem_of_getElem? (i := 1055) (by decide +kernel)⟩
theorem lw_p35 : lw_okq (⟨"MoleSecretsModel", "toldFirst", "(II)I"⟩, 17) := ⟨⟨by decide +kernel, by decide +kernel⟩, List.mem_of_getElem? (i := 790) (by decide +kernel), List.mem_of_getElem? (i := 1066) (by decide +kernel), List.mem_of_getElem? (i := 1067) (by decide +kernel)⟩
theorem lw_p36 : lw_okq (⟨"MoleSecretsModel", "firstAs", "(III)I"⟩, 17) := ⟨⟨by decide +kernel, by decide +kernel⟩, List.mem_of_getElem? (i := 790) (by decide +kernel), List.mem_of_getElem? (i := 1070) (by decide +kernel), List.mem_of_getElem? (i := 1071) (by decide +kernel)⟩
theorem lw_p37 : lw_okq (⟨"MoleSecretsModel", "outBehind", "(I)I"⟩, 17) := ⟨⟨by decide +kernel, by decide +kernel⟩, List.mem_of_getElem? (i := 790) (by decide +kernel), List.mem_of_getElem? (i := 1095) (by decide +kernel), List.mem_of_getElem? (i := 1096) (by decide +kernel)⟩
theorem lw_p38 : lw_okq (⟨"MoleSecretsModel", "handsBehind", "(I)I"⟩, 17) := ⟨⟨by decide +kernel, by decide +kernel⟩, List.mem_of_getElem? (i := 790) (by decide +kernel), List.mem_of_getElem? (i := 1104) (by decide +kernel), List.mem_of_getElem? (i := 1105) (by decide +kernel)⟩
theorem lw_p39 : lw_okq (⟨"MoleSecretsModel", "saves", "()V"⟩, 17) := ⟨⟨by decide +kernel, by decide +kernel⟩, List.mem_of_getElem? (i := 790) (by decide +kernel), List.mem_of_getElem? (i := 1112) (by decide +kernel), List.mem_of_getElem? (i := 1113) (by decide +kernel)⟩
theorem lw_p40 : lw_okq (⟨"MoleSecretsModel", "putsBack", "()V"⟩, 17) := ⟨⟨by decide +kernel, by decide +kernel⟩, List.mem_of_getElem? (i := 790) (by decide +kernel), List.mem_of_getElem? (i := 1116) (by decide +kernel), List.mem_of_getElem? (i := 1117) (by decide +kernel)⟩
theorem lw_p41 : lw_okq (⟨"MoleSecretsModel", "token", "()V"⟩, 17) := ⟨⟨by decide +kernel, by decide +kernel⟩, List.mem_of_getElem? (i := 790) (by decide +kernel), List.mem_of_getElem? (i := 1141) (by decide +kernel), List.mem_of_getElem? (i := 1142) (by decide +kernel)⟩
theorem lw_p42 : lw_okq (⟨"MoleSecretsModel", "byteAt", "(I)I"⟩, 17) := ⟨⟨by decide +kernel, by decide +kernel⟩, List.mem_of_getElem? (i := 790) (by decide +kernel), List.mem_of_getElem? (i := 1145) (by decide +kernel), List.mem_of_getElem? (i := 1146) (by decide +kernel)⟩
theorem lw_p43 : lw_okq (⟨"MoleSecretsModel", "item", "()V"⟩, 17) := ⟨⟨by decide +kernel, by decide +kernel⟩, List.mem_of_getElem? (i := 790) (by decide +kernel), List.mem_of_getElem? (i := 1159) (by decide +kernel), List.mem_of_getElem? (i := 1160) (by decide +kernel)⟩
theorem lw_p44 : lw_okq (⟨"MoleSecretsModel", "kindHere", "()I"⟩, 17) := ⟨⟨by decide +kernel, by decide +kernel⟩, List.mem_of_getElem? (i := 790) (by decide +kernel), List.mem_of_getElem? (i := 1163) (by decide +kernel), List.mem_of_getElem? (i := 1164) (by decide +kernel)⟩
theorem lw_p45 : lw_okq (⟨"MoleSecretsModel", "word", "()J"⟩, 17) := ⟨⟨by decide +kernel, by decide +kernel⟩, List.mem_of_getElem? (i := 790) (by decide +kernel), List.mem_of_getElem? (i := 1167) (by decide +kernel), List.mem_of_getElem? (i := 1168) (by decide +kernel)⟩
theorem lw_p46 : lw_okq (⟨"MoleSecretsModel", "moleItem", "(I)V"⟩, 17) := ⟨⟨by decide +kernel, by decide +kernel⟩, List.mem_of_getElem? (i := 790) (by decide +kernel), List.mem_of_getElem? (i := 1179) (by decide +kernel), List.mem_of_getElem? (i := 1180) (by decide +kernel)⟩
theorem lw_p47 : lw_okq (⟨"MoleSecretsModel", "must", "(Z)V"⟩, 17) := ⟨⟨by decide +kernel, by decide +kernel⟩, List.mem_of_getElem? (i := 790) (by decide +kernel), List.mem_of_getElem? (i := 1183) (by decide +kernel), List.mem_of_getElem? (i := 1184) (by decide +kernel)⟩
def lw_privs_3 : List (MethodName × Nat) := [(⟨"MoleSecretsModel", "behind", "(II)I"⟩, 17), (⟨"MoleSecretsModel", "laysAside", "()V"⟩, 17), (⟨"MoleSecretsModel", "takesBack", "(I)I"⟩, 17), (⟨"MoleSecretsModel", "toldFirst", "(II)I"⟩, 17), (⟨"MoleSecretsModel", "firstAs", "(III)I"⟩, 17), (⟨"MoleSecretsModel", "outBehind", "(I)I"⟩, 17), (⟨"MoleSecretsModel", "handsBehind", "(I)I"⟩, 17), (⟨"MoleSecretsModel", "saves", "()V"⟩, 17), (⟨"MoleSecretsModel", "putsBack", "()V"⟩, 17), (⟨"MoleSecretsModel", "token", "()V"⟩, 17), (⟨"MoleSecretsModel", "byteAt", "(I)I"⟩, 17), (⟨"MoleSecretsModel", "item", "()V"⟩, 17), (⟨"MoleSecretsModel", "kindHere", "()I"⟩, 17), (⟨"MoleSecretsModel", "word", "()J"⟩, 17), (⟨"MoleSecretsModel", "moleItem", "(I)V"⟩, 17), (⟨"MoleSecretsModel", "must", "(Z)V"⟩, 17)]
theorem lw_r3 : ∀ q ∈ lw_privs_3, lw_okq q := List.forall_mem_cons.mpr ⟨lw_p32, List.forall_mem_cons.mpr ⟨lw_p33, List.forall_mem_cons.mpr ⟨lw_p34, List.forall_mem_cons.mpr ⟨lw_p35, List.forall_mem_cons.mpr ⟨lw_p36, List.forall_mem_cons.mpr ⟨lw_p37, List.forall_mem_cons.mpr ⟨lw_p38, List.forall_mem_cons.mpr ⟨lw_p39, List.forall_mem_cons.mpr ⟨lw_p40, List.forall_mem_cons.mpr ⟨lw_p41, List.forall_mem_cons.mpr ⟨lw_p42, List.forall_mem_cons.mpr ⟨lw_p43, List.forall_mem_cons.mpr ⟨lw_p44, List.forall_mem_cons.mpr ⟨lw_p45, List.forall_mem_cons.mpr ⟨lw_p46, List.forall_mem_cons.mpr ⟨lw_p47, fun _ h => absurd h List.not_mem_nil⟩⟩⟩⟩⟩⟩⟩⟩⟩⟩⟩⟩⟩⟩⟩⟩
theorem lw_p48 : lw_okq (⟨"MoleSecretsModel", "number", "(II)V"⟩, 17) := ⟨⟨by decide +kernel, by decide +kernel⟩, List.mem_of_getElem? (i := 790) (by decide +kernel), List.mem_of_getElem? (i := 1187) (by decide +kernel), List.mem_of_getElem? (i := 1188) (by decide +kernel)⟩
theorem lw_p49 : lw_okq (⟨"MoleSecretsModel", "dugItem", "()V"⟩, 17) := ⟨⟨by decide +kernel, by decide +kernel⟩, List.mem_of_getElem? (i := 790) (by decide +kernel), List.mem_of_getElem? (i := 1192) (by decide +kernel), List.mem_of_getElem? (i := 1193) (by decide +kernel)⟩
theorem lw_p50 : lw_okq (⟨"MoleSecretsModel", "secretItem", "()V"⟩, 17) := ⟨⟨by decide +kernel, by decide +kernel⟩, List.mem_of_getElem? (i := 790) (by decide +kernel), List.mem_of_getElem? (i := 1197) (by decide +kernel), List.mem_of_getElem? (i := 1198) (by decide +kernel)⟩
theorem lw_p51 : lw_okq (⟨"MoleSecretsModel", "wrongSheet", "(I)I"⟩, 17) := ⟨⟨by decide +kernel, by decide +kernel⟩, List.mem_of_getElem? (i := 790) (by decide +kernel), List.mem_of_getElem? (i := 1213) (by decide +kernel), List.mem_of_getElem? (i := 1214) (by decide +kernel)⟩
theorem lw_p52 : lw_okq (⟨"MoleSecretsModel", "isBook", "(II)Z"⟩, 17) := ⟨⟨by decide +kernel, by decide +kernel⟩, List.mem_of_getElem? (i := 790) (by decide +kernel), List.mem_of_getElem? (i := 1237) (by decide +kernel), List.mem_of_getElem? (i := 1238) (by decide +kernel)⟩
theorem lw_p53 : lw_okq (⟨"MoleSecretsModel", "dugMany", "()I"⟩, 17) := ⟨⟨by decide +kernel, by decide +kernel⟩, List.mem_of_getElem? (i := 790) (by decide +kernel), List.mem_of_getElem? (i := 1257) (by decide +kernel), List.mem_of_getElem? (i := 1258) (by decide +kernel)⟩
def lw_privs_4 : List (MethodName × Nat) := [(⟨"MoleSecretsModel", "number", "(II)V"⟩, 17), (⟨"MoleSecretsModel", "dugItem", "()V"⟩, 17), (⟨"MoleSecretsModel", "secretItem", "()V"⟩, 17), (⟨"MoleSecretsModel", "wrongSheet", "(I)I"⟩, 17), (⟨"MoleSecretsModel", "isBook", "(II)Z"⟩, 17), (⟨"MoleSecretsModel", "dugMany", "()I"⟩, 17)]
theorem lw_r4 : ∀ q ∈ lw_privs_4, lw_okq q := List.forall_mem_cons.mpr ⟨lw_p48, List.forall_mem_cons.mpr ⟨lw_p49, List.forall_mem_cons.mpr ⟨lw_p50, List.forall_mem_cons.mpr ⟨lw_p51, List.forall_mem_cons.mpr ⟨lw_p52, List.forall_mem_cons.mpr ⟨lw_p53, fun _ h => absurd h List.not_mem_nil⟩⟩⟩⟩⟩⟩
def lw_privs : List (MethodName × Nat) := lw_privs_1 ++ (lw_privs_2 ++ (lw_privs_3 ++ (lw_privs_4)))
def lw_tbl : List Cond := k2_sels lw_privs ++ tables_1
theorem lw_privs_ok : ∀ q ∈ lw_privs, lw_okq q := by
  show ∀ q ∈ lw_privs_1 ++ (lw_privs_2 ++ (lw_privs_3 ++ (lw_privs_4))), lw_okq q
  exact List.forall_mem_append.mpr ⟨lw_r1, List.forall_mem_append.mpr ⟨lw_r2, List.forall_mem_append.mpr ⟨lw_r3, lw_r4⟩⟩⟩
/-! ===== BEGIN words of one list among another's, by their places ===== -/
theorem goodIn_r {big : List Cond} (ws : List Cond) (ps : List Nat) (hp : ws = ps.filterMap (fun i => big[i]?)) (h : ws.all goodWord = true) : GoodIn big ws := by
  intro w hw
  have h1 := List.all_eq_true.mp h w hw
  rw [hp] at hw
  obtain ⟨i, -, hi⟩ := List.mem_filterMap.mp hw
  have hm : w ∈ big := by first | exact List.mem_of_getElem? hi | exact List.getElem?_mem hi
  exact ⟨hm, good_of_word h1⟩
theorem goodIn_app {big a b : List Cond} (ha : GoodIn big a) (hb : GoodIn big b) : GoodIn big (a ++ b) := fun w h => (List.mem_append.mp h).elim (ha w) (hb w)
theorem goodIn_ca {big a b : List Cond} {c : Cond} (ha : GoodIn big (c :: a)) (hb : GoodIn big b) : GoodIn big (c :: (a ++ b)) := fun w h => (List.mem_cons.mp h).elim (fun e => ha w (List.mem_cons.mpr (Or.inl e))) (fun h => (List.mem_append.mp h).elim (fun h => ha w (List.mem_cons.mpr (Or.inr h))) (hb w))
theorem goodIn_sub {big ws : List Cond} (hm : ∀ w ∈ ws, w ∈ big) (h : ws.all goodWord = true) : GoodIn big ws := fun w hw => ⟨hm w hw, good_of_word (List.all_eq_true.mp h w hw)⟩
/-! ===== END ===== -/

/-! ===== BEGIN printed: names, fields, word lists, decode rows ===== -/
def RX0 : String := "MoleSecrets$Carrier"
def TX0 : u_T := fun k => match k with
  | _ => ("", "", "", false)
def tyX0 : Nat → FieldType := fun k => match k with
  | _ => .int
abbrev wsX00 : List Cond := u_ws RX0 TX0 0
theorem nmX0 : ∀ a, a < 0 → ∀ b, b < 0 → a ≠ b → (TX0 a).2.1 ≠ (TX0 b).2.1 := by decide +kernel
theorem tyX0_ok : ∀ k, k < 0 → parseFieldDescriptor (TX0 k).2.2.1 = some (tyX0 k) := by decide +kernel
abbrev cX0_init : ByteArray := prog_2_method_1_code
def yX0_init : MethodName := ⟨RX0, "<init>", "()V"⟩
abbrev cX0_word : ByteArray := prog_2_method_2_code
def yX0_word : MethodName := ⟨RX0, "word", "()Ljava/lang/String;"⟩
abbrev cX0_steps : ByteArray := prog_2_method_3_code
def yX0_steps : MethodName := ⟨RX0, "steps", "(IZ)I"⟩
abbrev cX0_payForSecret : ByteArray := prog_2_method_4_code
def yX0_payForSecret : MethodName := ⟨RX0, "payForSecret", "()I"⟩
def RX1 : String := "MoleSecrets$Digger"
def TX1 : u_T := fun k => match k with
  | _ => ("", "", "", false)
def tyX1 : Nat → FieldType := fun k => match k with
  | _ => .int
abbrev wsX10 : List Cond := u_ws RX1 TX1 0
theorem nmX1 : ∀ a, a < 0 → ∀ b, b < 0 → a ≠ b → (TX1 a).2.1 ≠ (TX1 b).2.1 := by decide +kernel
theorem tyX1_ok : ∀ k, k < 0 → parseFieldDescriptor (TX1 k).2.2.1 = some (tyX1 k) := by decide +kernel
abbrev cX1_init : ByteArray := prog_3_method_1_code
def yX1_init : MethodName := ⟨RX1, "<init>", "()V"⟩
abbrev cX1_word : ByteArray := prog_3_method_2_code
def yX1_word : MethodName := ⟨RX1, "word", "()Ljava/lang/String;"⟩
abbrev cX1_diggingWay : ByteArray := prog_3_method_3_code
def yX1_diggingWay : MethodName := ⟨RX1, "diggingWay", "()I"⟩
abbrev cX1_turnsFirst : ByteArray := prog_3_method_4_code
def yX1_turnsFirst : MethodName := ⟨RX1, "turnsFirst", "(I)Z"⟩
abbrev cX1_payForCell : ByteArray := prog_3_method_5_code
def yX1_payForCell : MethodName := ⟨RX1, "payForCell", "()I"⟩
def RX2 : String := "MoleSecrets$Findings"
def TX2 : u_T := fun k => match k with
  | _ => ("MoleSecrets$Findings", "counts", "[I", true)
def tyX2 : Nat → FieldType := fun k => match k with
  | _ => .array .int
abbrev wsX20 : List Cond := u_ws RX2 TX2 1
theorem nmX2 : ∀ a, a < 1 → ∀ b, b < 1 → a ≠ b → (TX2 a).2.1 ≠ (TX2 b).2.1 := by decide +kernel
theorem tyX2_ok : ∀ k, k < 1 → parseFieldDescriptor (TX2 k).2.2.1 = some (tyX2 k) := by decide +kernel
abbrev cX2_init : ByteArray := prog_4_method_1_code
def yX2_init : MethodName := ⟨RX2, "<init>", "()V"⟩
abbrev cX2_found : ByteArray := prog_4_method_2_code
def yX2_found : MethodName := ⟨RX2, "found", "(I)I"⟩
abbrev cX2_all : ByteArray := prog_4_method_3_code
def yX2_all : MethodName := ⟨RX2, "all", "()I"⟩
def RX3 : String := "MoleSecrets$Hurrier"
def TX3 : u_T := fun k => match k with
  | _ => ("", "", "", false)
def tyX3 : Nat → FieldType := fun k => match k with
  | _ => .int
abbrev wsX30 : List Cond := u_ws RX3 TX3 0
theorem nmX3 : ∀ a, a < 0 → ∀ b, b < 0 → a ≠ b → (TX3 a).2.1 ≠ (TX3 b).2.1 := by decide +kernel
theorem tyX3_ok : ∀ k, k < 0 → parseFieldDescriptor (TX3 k).2.2.1 = some (tyX3 k) := by decide +kernel
abbrev cX3_init : ByteArray := prog_5_method_1_code
def yX3_init : MethodName := ⟨RX3, "<init>", "()V"⟩
abbrev cX3_word : ByteArray := prog_5_method_2_code
def yX3_word : MethodName := ⟨RX3, "word", "()Ljava/lang/String;"⟩
abbrev cX3_steps : ByteArray := prog_5_method_3_code
def yX3_steps : MethodName := ⟨RX3, "steps", "(IZ)I"⟩
abbrev cX3_payForSecret : ByteArray := prog_5_method_4_code
def yX3_payForSecret : MethodName := ⟨RX3, "payForSecret", "()I"⟩
def RX4 : String := "MoleSecrets$Master"
def TX4 : u_T := fun k => match k with
  | _ => ("", "", "", false)
def tyX4 : Nat → FieldType := fun k => match k with
  | _ => .int
abbrev wsX40 : List Cond := u_ws RX4 TX4 0
theorem nmX4 : ∀ a, a < 0 → ∀ b, b < 0 → a ≠ b → (TX4 a).2.1 ≠ (TX4 b).2.1 := by decide +kernel
theorem tyX4_ok : ∀ k, k < 0 → parseFieldDescriptor (TX4 k).2.2.1 = some (tyX4 k) := by decide +kernel
abbrev cX4_init : ByteArray := prog_6_method_1_code
def yX4_init : MethodName := ⟨RX4, "<init>", "()V"⟩
abbrev cX4_word : ByteArray := prog_6_method_2_code
def yX4_word : MethodName := ⟨RX4, "word", "()Ljava/lang/String;"⟩
abbrev cX4_steps : ByteArray := prog_6_method_3_code
def yX4_steps : MethodName := ⟨RX4, "steps", "(IZ)I"⟩
abbrev cX4_turnsFirst : ByteArray := prog_6_method_4_code
def yX4_turnsFirst : MethodName := ⟨RX4, "turnsFirst", "(I)Z"⟩
abbrev cX4_payForSecret : ByteArray := prog_6_method_5_code
def yX4_payForSecret : MethodName := ⟨RX4, "payForSecret", "()I"⟩
def RX5 : String := "MoleSecrets$Mole"
def TX5 : u_T := fun k => match k with
  | _ => ("", "", "", false)
def tyX5 : Nat → FieldType := fun k => match k with
  | _ => .int
abbrev wsX50 : List Cond := u_ws RX5 TX5 0
theorem nmX5 : ∀ a, a < 0 → ∀ b, b < 0 → a ≠ b → (TX5 a).2.1 ≠ (TX5 b).2.1 := by decide +kernel
theorem tyX5_ok : ∀ k, k < 0 → parseFieldDescriptor (TX5 k).2.2.1 = some (tyX5 k) := by decide +kernel
abbrev cX5_init : ByteArray := prog_7_method_1_code
def yX5_init : MethodName := ⟨RX5, "<init>", "()V"⟩
abbrev cX5_word : ByteArray := prog_7_method_2_code
def yX5_word : MethodName := ⟨RX5, "word", "()Ljava/lang/String;"⟩
abbrev cX5_steps : ByteArray := prog_7_method_3_code
def yX5_steps : MethodName := ⟨RX5, "steps", "(IZ)I"⟩
abbrev cX5_diggingWay : ByteArray := prog_7_method_4_code
def yX5_diggingWay : MethodName := ⟨RX5, "diggingWay", "()I"⟩
abbrev cX5_turnsFirst : ByteArray := prog_7_method_5_code
def yX5_turnsFirst : MethodName := ⟨RX5, "turnsFirst", "(I)Z"⟩
abbrev cX5_payForCell : ByteArray := prog_7_method_6_code
def yX5_payForCell : MethodName := ⟨RX5, "payForCell", "()I"⟩
abbrev cX5_payForSecret : ByteArray := prog_7_method_7_code
def yX5_payForSecret : MethodName := ⟨RX5, "payForSecret", "()I"⟩
def RX6 : String := "MoleSecrets$Retired"
def TX6 : u_T := fun k => match k with
  | _ => ("", "", "", false)
def tyX6 : Nat → FieldType := fun k => match k with
  | _ => .int
abbrev wsX60 : List Cond := u_ws RX6 TX6 0
theorem nmX6 : ∀ a, a < 0 → ∀ b, b < 0 → a ≠ b → (TX6 a).2.1 ≠ (TX6 b).2.1 := by decide +kernel
theorem tyX6_ok : ∀ k, k < 0 → parseFieldDescriptor (TX6 k).2.2.1 = some (tyX6 k) := by decide +kernel
abbrev cX6_init : ByteArray := prog_8_method_1_code
def yX6_init : MethodName := ⟨RX6, "<init>", "()V"⟩
abbrev cX6_word : ByteArray := prog_8_method_2_code
def yX6_word : MethodName := ⟨RX6, "word", "()Ljava/lang/String;"⟩
abbrev cX6_steps : ByteArray := prog_8_method_3_code
def yX6_steps : MethodName := ⟨RX6, "steps", "(IZ)I"⟩
abbrev cX6_diggingWay : ByteArray := prog_8_method_4_code
def yX6_diggingWay : MethodName := ⟨RX6, "diggingWay", "()I"⟩
abbrev cX6_turnsFirst : ByteArray := prog_8_method_5_code
def yX6_turnsFirst : MethodName := ⟨RX6, "turnsFirst", "(I)Z"⟩
abbrev cX6_payForCell : ByteArray := prog_8_method_6_code
def yX6_payForCell : MethodName := ⟨RX6, "payForCell", "()I"⟩
abbrev cX6_payForSecret : ByteArray := prog_8_method_7_code
def yX6_payForSecret : MethodName := ⟨RX6, "payForSecret", "()I"⟩
def RX7 : String := "MoleSecrets$Sheet"
def TX7 : u_T := fun k => match k with
  | 0 => ("MoleSecrets$Sheet", "bits", "I", false)
  | 1 => ("MoleSecrets$Sheet", "size", "I", false)
  | _ => ("MoleSecrets$Sheet", "numbers", "[J", true)
def tyX7 : Nat → FieldType := fun k => match k with
  | 0 => .int
  | 1 => .int
  | _ => .array .long
abbrev wsX70 : List Cond := u_ws RX7 TX7 3
theorem nmX7 : ∀ a, a < 3 → ∀ b, b < 3 → a ≠ b → (TX7 a).2.1 ≠ (TX7 b).2.1 := by decide +kernel
theorem tyX7_ok : ∀ k, k < 3 → parseFieldDescriptor (TX7 k).2.2.1 = some (tyX7 k) := by decide +kernel
abbrev cX7_init : ByteArray := prog_9_method_1_code
def yX7_init : MethodName := ⟨RX7, "<init>", "()V"⟩
abbrev cX7_isMissing : ByteArray := prog_9_method_2_code
def yX7_isMissing : MethodName := ⟨RX7, "isMissing", "()Z"⟩
abbrev cX7_renew : ByteArray := prog_9_method_3_code
def yX7_renew : MethodName := ⟨RX7, "renew", "(II)I"⟩
abbrev cX7_has : ByteArray := prog_9_method_4_code
def yX7_has : MethodName := ⟨RX7, "has", "(II)Z"⟩
abbrev cX7_put : ByteArray := prog_9_method_5_code
def yX7_put : MethodName := ⟨RX7, "put", "(IJ)V"⟩
def RX8 : String := "MoleSecrets$Shire"
def TX8 : u_T := fun k => match k with
  | 0 => ("MoleSecrets$Shire", "kinds", "[LMoleSecrets$Mole;", true)
  | 1 => ("MoleSecrets$Shire", "minute", "I", false)
  | 2 => ("MoleSecrets$Shire", "dugCells", "I", false)
  | 3 => ("MoleSecrets$Shire", "moles", "I", false)
  | 4 => ("MoleSecrets$Shire", "heaps", "[I", true)
  | 5 => ("MoleSecrets$Shire", "lies", "[I", true)
  | 6 => ("MoleSecrets$Shire", "kind", "[I", true)
  | 7 => ("MoleSecrets$Shire", "at", "[I", true)
  | 8 => ("MoleSecrets$Shire", "home", "[I", true)
  | 9 => ("MoleSecrets$Shire", "end", "[I", true)
  | 10 => ("MoleSecrets$Shire", "way", "[I", true)
  | 11 => ("MoleSecrets$Shire", "hands", "[I", true)
  | _ => ("MoleSecrets$Shire", "carries", "[I", true)
def tyX8 : Nat → FieldType := fun k => match k with
  | 0 => .array (.object "MoleSecrets$Mole")
  | 1 => .int
  | 2 => .int
  | 3 => .int
  | 4 => .array .int
  | 5 => .array .int
  | 6 => .array .int
  | 7 => .array .int
  | 8 => .array .int
  | 9 => .array .int
  | 10 => .array .int
  | 11 => .array .int
  | _ => .array .int
abbrev wsX80 : List Cond := u_ws RX8 TX8 13
theorem nmX8 : ∀ a, a < 13 → ∀ b, b < 13 → a ≠ b → (TX8 a).2.1 ≠ (TX8 b).2.1 := by decide +kernel
theorem tyX8_ok : ∀ k, k < 13 → parseFieldDescriptor (TX8 k).2.2.1 = some (tyX8 k) := by decide +kernel
abbrev cX8_init : ByteArray := prog_10_method_1_code
def yX8_init : MethodName := ⟨RX8, "<init>", "([LMoleSecrets$Mole;)V"⟩
abbrev cX8_become : ByteArray := prog_10_method_2_code
def yX8_become : MethodName := ⟨RX8, "become", "(LMoleSecrets$Shire;)V"⟩
abbrev cX8_isFull : ByteArray := prog_10_method_3_code
def yX8_isFull : MethodName := ⟨RX8, "isFull", "()Z"⟩
abbrev cX8_contract : ByteArray := prog_10_method_4_code
def yX8_contract : MethodName := ⟨RX8, "contract", "(III)I"⟩
abbrev cX8_lay : ByteArray := prog_10_method_5_code
def yX8_lay : MethodName := ⟨RX8, "lay", "(II)V"⟩
abbrev cX8_isTunnel : ByteArray := prog_10_method_6_code
def yX8_isTunnel : MethodName := ⟨RX8, "isTunnel", "(I)Z"⟩
abbrev cX8_putSecret : ByteArray := prog_10_method_7_code
def yX8_putSecret : MethodName := ⟨RX8, "putSecret", "(II)V"⟩
abbrev cX8_kindOf : ByteArray := prog_10_method_8_code
def yX8_kindOf : MethodName := ⟨RX8, "kindOf", "(I)LMoleSecrets$Mole;"⟩
abbrev cX8_stepsOf : ByteArray := prog_10_method_9_code
def yX8_stepsOf : MethodName := ⟨RX8, "stepsOf", "(I)I"⟩
abbrev cX8_molesAt : ByteArray := prog_10_method_10_code
def yX8_molesAt : MethodName := ⟨RX8, "molesAt", "(I)I"⟩
abbrev cX8_secretsAt : ByteArray := prog_10_method_11_code
def yX8_secretsAt : MethodName := ⟨RX8, "secretsAt", "(I)I"⟩
abbrev cX8_heapsOfAll : ByteArray := prog_10_method_12_code
def yX8_heapsOfAll : MethodName := ⟨RX8, "heapsOfAll", "()I"⟩
abbrev cX8_handsOfAll : ByteArray := prog_10_method_13_code
def yX8_handsOfAll : MethodName := ⟨RX8, "handsOfAll", "()I"⟩
abbrev cX8_minutesTillOut : ByteArray := prog_10_method_14_code
def yX8_minutesTillOut : MethodName := ⟨RX8, "minutesTillOut", "(II)I"⟩
abbrev cX8_minutesTillDug : ByteArray := prog_10_method_15_code
def yX8_minutesTillDug : MethodName := ⟨RX8, "minutesTillDug", "(II)I"⟩
abbrev cX8_minutesTillAt : ByteArray := prog_10_method_16_code
def yX8_minutesTillAt : MethodName := ⟨RX8, "minutesTillAt", "(III)I"⟩
abbrev cX8_pass : ByteArray := prog_10_method_17_code
def yX8_pass : MethodName := ⟨RX8, "pass", "(II)V"⟩
abbrev cX8_passOne : ByteArray := prog_10_method_18_code
def yX8_passOne : MethodName := ⟨RX8, "passOne", "(I)V"⟩
abbrev cX8_settle : ByteArray := prog_10_method_19_code
def yX8_settle : MethodName := ⟨RX8, "settle", "(I)V"⟩
abbrev cX8_bringOut : ByteArray := prog_10_method_20_code
def yX8_bringOut : MethodName := ⟨RX8, "bringOut", "(I)V"⟩
abbrev cX8_pickUp : ByteArray := prog_10_method_21_code
def yX8_pickUp : MethodName := ⟨RX8, "pickUp", "(I)V"⟩
abbrev cX8_turnRound : ByteArray := prog_10_method_22_code
def yX8_turnRound : MethodName := ⟨RX8, "turnRound", "(I)V"⟩
abbrev cX8_pay : ByteArray := prog_10_method_23_code
def yX8_pay : MethodName := ⟨RX8, "pay", "(II)V"⟩
abbrev cX8_goalOf : ByteArray := prog_10_method_24_code
def yX8_goalOf : MethodName := ⟨RX8, "goalOf", "(I)I"⟩
abbrev cX8_step : ByteArray := prog_10_method_25_code
def yX8_step : MethodName := ⟨RX8, "step", "(I)V"⟩
abbrev cX8_nextCell : ByteArray := prog_10_method_26_code
def yX8_nextCell : MethodName := ⟨RX8, "nextCell", "(I)I"⟩
def RX9 : String := "MoleSecrets$Tape"
def TX9 : u_T := fun k => match k with
  | 0 => ("MoleSecrets$Tape", "bytes", "[I", true)
  | 1 => ("MoleSecrets$Tape", "length", "I", false)
  | 2 => ("MoleSecrets$Tape", "token", "I", false)
  | 3 => ("MoleSecrets$Tape", "first", "I", false)
  | 4 => ("MoleSecrets$Tape", "behind", "I", false)
  | _ => ("MoleSecrets$Tape", "number", "I", false)
def tyX9 : Nat → FieldType := fun k => match k with
  | 0 => .array .int
  | 1 => .int
  | 2 => .int
  | 3 => .int
  | 4 => .int
  | _ => .int
abbrev wsX90 : List Cond := u_ws RX9 TX9 6
theorem nmX9 : ∀ a, a < 6 → ∀ b, b < 6 → a ≠ b → (TX9 a).2.1 ≠ (TX9 b).2.1 := by decide +kernel
theorem tyX9_ok : ∀ k, k < 6 → parseFieldDescriptor (TX9 k).2.2.1 = some (tyX9 k) := by decide +kernel
abbrev cX9_init : ByteArray := prog_11_method_1_code
def yX9_init : MethodName := ⟨RX9, "<init>", "()V"⟩
abbrev cX9_append : ByteArray := prog_11_method_2_code
def yX9_append : MethodName := ⟨RX9, "append", "(II)V"⟩
abbrev cX9_play : ByteArray := prog_11_method_3_code
def yX9_play : MethodName := ⟨RX9, "play", "(LMoleSecrets$Shire;)I"⟩
abbrev cX9_playItem : ByteArray := prog_11_method_4_code
def yX9_playItem : MethodName := ⟨RX9, "playItem", "(LMoleSecrets$Shire;)Z"⟩
abbrev cX9_playDug : ByteArray := prog_11_method_5_code
def yX9_playDug : MethodName := ⟨RX9, "playDug", "(LMoleSecrets$Shire;)Z"⟩
abbrev cX9_playSecret : ByteArray := prog_11_method_6_code
def yX9_playSecret : MethodName := ⟨RX9, "playSecret", "(LMoleSecrets$Shire;)Z"⟩
abbrev cX9_playMole : ByteArray := prog_11_method_7_code
def yX9_playMole : MethodName := ⟨RX9, "playMole", "(LMoleSecrets$Shire;I)Z"⟩
abbrev cX9_takeNumber : ByteArray := prog_11_method_8_code
def yX9_takeNumber : MethodName := ⟨RX9, "takeNumber", "(I)Z"⟩
abbrev cX9_isWord : ByteArray := prog_11_method_9_code
def yX9_isWord : MethodName := ⟨RX9, "isWord", "(Ljava/lang/String;)Z"⟩
abbrev cX9_advance : ByteArray := prog_11_method_10_code
def yX9_advance : MethodName := ⟨RX9, "advance", "()V"⟩
abbrev cX9_passWord : ByteArray := prog_11_method_11_code
def yX9_passWord : MethodName := ⟨RX9, "passWord", "()V"⟩
abbrev cX9_passNumber : ByteArray := prog_11_method_12_code
def yX9_passNumber : MethodName := ⟨RX9, "passNumber", "()V"⟩
abbrev cX9_isLetter : ByteArray := prog_11_method_13_code
def yX9_isLetter : MethodName := ⟨RX9, "isLetter", "(I)Z"⟩
abbrev cX9_isDigit : ByteArray := prog_11_method_14_code
def yX9_isDigit : MethodName := ⟨RX9, "isDigit", "(I)Z"⟩
def RX10 : String := "MoleSecrets"
def TX10 : u_T := fun k => match k with
  | 0 => ("MoleSecrets", "live", "LMoleSecrets$Shire;", true)
  | 1 => ("MoleSecrets", "ahead", "LMoleSecrets$Shire;", true)
  | 2 => ("MoleSecrets", "kept", "LMoleSecrets$Shire;", true)
  | 3 => ("MoleSecrets", "isKept", "Z", false)
  | 4 => ("MoleSecrets", "tape", "LMoleSecrets$Tape;", true)
  | 5 => ("MoleSecrets", "sheets", "[LMoleSecrets$Sheet;", true)
  | _ => ("MoleSecrets", "findings", "LMoleSecrets$Findings;", true)
def tyX10 : Nat → FieldType := fun k => match k with
  | 0 => .object "MoleSecrets$Shire"
  | 1 => .object "MoleSecrets$Shire"
  | 2 => .object "MoleSecrets$Shire"
  | 3 => .boolean
  | 4 => .object "MoleSecrets$Tape"
  | 5 => .array (.object "MoleSecrets$Sheet")
  | _ => .object "MoleSecrets$Findings"
abbrev wsX100 : List Cond := u_ws RX10 TX10 7
theorem nmX10 : ∀ a, a < 7 → ∀ b, b < 7 → a ≠ b → (TX10 a).2.1 ≠ (TX10 b).2.1 := by decide +kernel
theorem tyX10_ok : ∀ k, k < 7 → parseFieldDescriptor (TX10 k).2.2.1 = some (tyX10 k) := by decide +kernel
abbrev cX10_init : ByteArray := prog_1_method_1_code
def yX10_init : MethodName := ⟨RX10, "<init>", "()V"⟩
abbrev cX10_cell : ByteArray := prog_1_method_2_code
def yX10_cell : MethodName := ⟨RX10, "cell", "(III)I"⟩
abbrev cX10_cellOf : ByteArray := prog_1_method_3_code
def yX10_cellOf : MethodName := ⟨RX10, "cellOf", "(II)I"⟩
abbrev cX10_tell : ByteArray := prog_1_method_4_code
def yX10_tell : MethodName := ⟨RX10, "tell", "(II)I"⟩
abbrev cX10_where : ByteArray := prog_1_method_5_code
def yX10_where : MethodName := ⟨RX10, "where", "(I)I"⟩
abbrev cX10_now : ByteArray := prog_1_method_6_code
def yX10_now : MethodName := ⟨RX10, "now", "(I)I"⟩
abbrev cX10_mole : ByteArray := prog_1_method_7_code
def yX10_mole : MethodName := ⟨RX10, "mole", "(III)I"⟩
abbrev cX10_of : ByteArray := prog_1_method_8_code
def yX10_of : MethodName := ⟨RX10, "of", "(II)I"⟩
abbrev cX10_charges : ByteArray := prog_1_method_9_code
def yX10_charges : MethodName := ⟨RX10, "charges", "(II)I"⟩
abbrev cX10_set : ByteArray := prog_1_method_10_code
def yX10_set : MethodName := ⟨RX10, "set", "(III)I"⟩
abbrev cX10_turn : ByteArray := prog_1_method_11_code
def yX10_turn : MethodName := ⟨RX10, "turn", "(II)I"⟩
abbrev cX10_as : ByteArray := prog_1_method_12_code
def yX10_as : MethodName := ⟨RX10, "as", "(II)I"⟩
abbrev cX10_minutes : ByteArray := prog_1_method_13_code
def yX10_minutes : MethodName := ⟨RX10, "minutes", "(I)I"⟩
abbrev cX10_on : ByteArray := prog_1_method_14_code
def yX10_on : MethodName := ⟨RX10, "on", "(III)I"⟩
abbrev cX10_then : ByteArray := prog_1_method_15_code
def yX10_then : MethodName := ⟨RX10, "then", "(II)I"⟩
abbrev cX10_out : ByteArray := prog_1_method_16_code
def yX10_out : MethodName := ⟨RX10, "out", "(I)I"⟩
abbrev cX10_dug : ByteArray := prog_1_method_17_code
def yX10_dug : MethodName := ⟨RX10, "dug", "(I)I"⟩
abbrev cX10_comes : ByteArray := prog_1_method_18_code
def yX10_comes : MethodName := ⟨RX10, "comes", "(II)I"⟩
abbrev cX10_kind : ByteArray := prog_1_method_19_code
def yX10_kind : MethodName := ⟨RX10, "kind", "(II)I"⟩
abbrev cX10_lead : ByteArray := prog_1_method_20_code
def yX10_lead : MethodName := ⟨RX10, "lead", "(II)I"⟩
abbrev cX10_dig : ByteArray := prog_1_method_21_code
def yX10_dig : MethodName := ⟨RX10, "dig", "(I)I"⟩
abbrev cX10_leave : ByteArray := prog_1_method_22_code
def yX10_leave : MethodName := ⟨RX10, "leave", "(I)I"⟩
abbrev cX10_dismiss : ByteArray := prog_1_method_23_code
def yX10_dismiss : MethodName := ⟨RX10, "dismiss", "(I)I"⟩
abbrev cX10_richest : ByteArray := prog_1_method_24_code
def yX10_richest : MethodName := ⟨RX10, "richest", "(I)I"⟩
abbrev cX10_feed : ByteArray := prog_1_method_25_code
def yX10_feed : MethodName := ⟨RX10, "feed", "(II)I"⟩
abbrev cX10_wipe : ByteArray := prog_1_method_26_code
def yX10_wipe : MethodName := ⟨RX10, "wipe", "()I"⟩
abbrev cX10_shire : ByteArray := prog_1_method_27_code
def yX10_shire : MethodName := ⟨RX10, "shire", "()I"⟩
abbrev cX10_sheet : ByteArray := prog_1_method_28_code
def yX10_sheet : MethodName := ⟨RX10, "sheet", "(III)I"⟩
abbrev cX10_write : ByteArray := prog_1_method_29_code
def yX10_write : MethodName := ⟨RX10, "write", "(IIJ)J"⟩
abbrev cX10_copy : ByteArray := prog_1_method_30_code
def yX10_copy : MethodName := ⟨RX10, "copy", "(IIIII)I"⟩
abbrev cX10_lays : ByteArray := prog_1_method_31_code
def yX10_lays : MethodName := ⟨RX10, "lays", "(I)I"⟩
abbrev cX10_book : ByteArray := prog_1_method_32_code
def yX10_book : MethodName := ⟨RX10, "book", "(II)I"⟩
abbrev cX10_read : ByteArray := prog_1_method_33_code
def yX10_read : MethodName := ⟨RX10, "read", "(II)I"⟩
abbrev cX10_image : ByteArray := prog_1_method_34_code
def yX10_image : MethodName := ⟨RX10, "image", "()I"⟩
abbrev cX10_undo : ByteArray := prog_1_method_35_code
def yX10_undo : MethodName := ⟨RX10, "undo", "()I"⟩
abbrev cX10_tear : ByteArray := prog_1_method_36_code
def yX10_tear : MethodName := ⟨RX10, "tear", "()I"⟩
abbrev cX10_count : ByteArray := prog_1_method_37_code
def yX10_count : MethodName := ⟨RX10, "count", "(I)I"⟩
abbrev cX10_status : ByteArray := prog_1_method_38_code
def yX10_status : MethodName := ⟨RX10, "status", "(I)I"⟩
abbrev cX10_within : ByteArray := prog_1_method_39_code
def yX10_within : MethodName := ⟨RX10, "within", "(III)Z"⟩
abbrev cX10_isCell : ByteArray := prog_1_method_40_code
def yX10_isCell : MethodName := ⟨RX10, "isCell", "(I)Z"⟩
abbrev cX10_isSecret : ByteArray := prog_1_method_41_code
def yX10_isSecret : MethodName := ⟨RX10, "isSecret", "(I)Z"⟩
abbrev cX10_isKind : ByteArray := prog_1_method_42_code
def yX10_isKind : MethodName := ⟨RX10, "isKind", "(I)Z"⟩
abbrev cX10_isSheet : ByteArray := prog_1_method_43_code
def yX10_isSheet : MethodName := ⟨RX10, "isSheet", "(I)Z"⟩
abbrev cX10_isMole : ByteArray := prog_1_method_44_code
def yX10_isMole : MethodName := ⟨RX10, "isMole", "(I)Z"⟩
abbrev cX10_sheetFinding : ByteArray := prog_1_method_45_code
def yX10_sheetFinding : MethodName := ⟨RX10, "sheetFinding", "(I)I"⟩
abbrev cX10_mostOf : ByteArray := prog_1_method_46_code
def yX10_mostOf : MethodName := ⟨RX10, "mostOf", "(I)I"⟩
abbrev cX10_isOneOf : ByteArray := prog_1_method_47_code
def yX10_isOneOf : MethodName := ⟨RX10, "isOneOf", "(LMoleSecrets$Mole;I)Z"⟩
abbrev cX10_cellFact : ByteArray := prog_1_method_48_code
def yX10_cellFact : MethodName := ⟨RX10, "cellFact", "(II)I"⟩
abbrev cX10_moleFact : ByteArray := prog_1_method_49_code
def yX10_moleFact : MethodName := ⟨RX10, "moleFact", "(II)I"⟩
abbrev cX10_foundWithin : ByteArray := prog_1_method_50_code
def yX10_foundWithin : MethodName := ⟨RX10, "foundWithin", "(I)I"⟩
abbrev cX10_goesAs : ByteArray := prog_1_method_51_code
def yX10_goesAs : MethodName := ⟨RX10, "goesAs", "(ILMoleSecrets$Sheet;)Z"⟩
def RX11 : String := "MoleSecretsModel"
def TX11 : u_T := fun k => match k with
  | 0 => ("MoleSecretsModel", "s", "[I", true)
  | 1 => ("MoleSecretsModel", "keptS", "[I", true)
  | 2 => ("MoleSecretsModel", "other", "[I", true)
  | 3 => ("MoleSecretsModel", "aside", "[I", true)
  | 4 => ("MoleSecretsModel", "statuses", "[I", true)
  | 5 => ("MoleSecretsModel", "isKept", "Z", false)
  | 6 => ("MoleSecretsModel", "away", "I", false)
  | 7 => ("MoleSecretsModel", "tape", "[I", true)
  | 8 => ("MoleSecretsModel", "taped", "I", false)
  | 9 => ("MoleSecretsModel", "from", "I", false)
  | 10 => ("MoleSecretsModel", "to", "I", false)
  | 11 => ("MoleSecretsModel", "value", "I", false)
  | 12 => ("MoleSecretsModel", "isWrong", "Z", false)
  | 13 => ("MoleSecretsModel", "bitsOf", "[I", true)
  | 14 => ("MoleSecretsModel", "sizeOf", "[I", true)
  | 15 => ("MoleSecretsModel", "numbers", "[J", true)
  | _ => ("MoleSecretsModel", "moved", "[J", true)
def tyX11 : Nat → FieldType := fun k => match k with
  | 0 => .array .int
  | 1 => .array .int
  | 2 => .array .int
  | 3 => .array .int
  | 4 => .array .int
  | 5 => .boolean
  | 6 => .int
  | 7 => .array .int
  | 8 => .int
  | 9 => .int
  | 10 => .int
  | 11 => .int
  | 12 => .boolean
  | 13 => .array .int
  | 14 => .array .int
  | 15 => .array .long
  | _ => .array .long
abbrev wsX110 : List Cond := u_ws RX11 TX11 17
theorem nmX11 : ∀ a, a < 17 → ∀ b, b < 17 → a ≠ b → (TX11 a).2.1 ≠ (TX11 b).2.1 := by decide +kernel
theorem tyX11_ok : ∀ k, k < 17 → parseFieldDescriptor (TX11 k).2.2.1 = some (tyX11 k) := by decide +kernel
abbrev cX11_init : ByteArray := prog_13_method_1_code
def yX11_init : MethodName := ⟨RX11, "<init>", "()V"⟩
abbrev cX11_in : ByteArray := prog_13_method_2_code
def yX11_in : MethodName := ⟨RX11, "in", "(JJJ)Z"⟩
abbrev cX11_finds : ByteArray := prog_13_method_3_code
def yX11_finds : MethodName := ⟨RX11, "finds", "(I)I"⟩
abbrev cX11_saves : ByteArray := prog_13_method_4_code
def yX11_saves : MethodName := ⟨RX11, "saves", "()V"⟩
abbrev cX11_putsBack : ByteArray := prog_13_method_5_code
def yX11_putsBack : MethodName := ⟨RX11, "putsBack", "()V"⟩
abbrev cX11_laysAside : ByteArray := prog_13_method_6_code
def yX11_laysAside : MethodName := ⟨RX11, "laysAside", "()V"⟩
abbrev cX11_takesBack : ByteArray := prog_13_method_7_code
def yX11_takesBack : MethodName := ⟨RX11, "takesBack", "(I)I"⟩
abbrev cX11_becomes : ByteArray := prog_13_method_8_code
def yX11_becomes : MethodName := ⟨RX11, "becomes", "(II)I"⟩
abbrev cX11_cellSpot : ByteArray := prog_13_method_9_code
def yX11_cellSpot : MethodName := ⟨RX11, "cellSpot", "(II)I"⟩
abbrev cX11_spot : ByteArray := prog_13_method_10_code
def yX11_spot : MethodName := ⟨RX11, "spot", "(II)I"⟩
abbrev cX11_its : ByteArray := prog_13_method_11_code
def yX11_its : MethodName := ⟨RX11, "its", "(II)I"⟩
abbrev cX11_isDug : ByteArray := prog_13_method_12_code
def yX11_isDug : MethodName := ⟨RX11, "isDug", "(I)Z"⟩
abbrev cX11_isCell : ByteArray := prog_13_method_13_code
def yX11_isCell : MethodName := ⟨RX11, "isCell", "(I)Z"⟩
abbrev cX11_isSecret : ByteArray := prog_13_method_14_code
def yX11_isSecret : MethodName := ⟨RX11, "isSecret", "(I)Z"⟩
abbrev cX11_isMole : ByteArray := prog_13_method_15_code
def yX11_isMole : MethodName := ⟨RX11, "isMole", "(I)Z"⟩
abbrev cX11_isKind : ByteArray := prog_13_method_16_code
def yX11_isKind : MethodName := ⟨RX11, "isKind", "(I)Z"⟩
abbrev cX11_heldTo : ByteArray := prog_13_method_17_code
def yX11_heldTo : MethodName := ⟨RX11, "heldTo", "(II)I"⟩
abbrev cX11_heaps : ByteArray := prog_13_method_18_code
def yX11_heaps : MethodName := ⟨RX11, "heaps", "()I"⟩
abbrev cX11_dugOnes : ByteArray := prog_13_method_19_code
def yX11_dugOnes : MethodName := ⟨RX11, "dugOnes", "()I"⟩
abbrev cX11_secretsAt : ByteArray := prog_13_method_20_code
def yX11_secretsAt : MethodName := ⟨RX11, "secretsAt", "(I)I"⟩
abbrev cX11_hands : ByteArray := prog_13_method_21_code
def yX11_hands : MethodName := ⟨RX11, "hands", "()I"⟩
abbrev cX11_cell : ByteArray := prog_13_method_22_code
def yX11_cell : MethodName := ⟨RX11, "cell", "(III)I"⟩
abbrev cX11_molesAt : ByteArray := prog_13_method_23_code
def yX11_molesAt : MethodName := ⟨RX11, "molesAt", "(I)I"⟩
abbrev cX11_cellOf : ByteArray := prog_13_method_24_code
def yX11_cellOf : MethodName := ⟨RX11, "cellOf", "(II)I"⟩
abbrev cX11_puts : ByteArray := prog_13_method_25_code
def yX11_puts : MethodName := ⟨RX11, "puts", "(II)I"⟩
abbrev cX11_tell : ByteArray := prog_13_method_26_code
def yX11_tell : MethodName := ⟨RX11, "tell", "(II)I"⟩
abbrev cX11_where : ByteArray := prog_13_method_27_code
def yX11_where : MethodName := ⟨RX11, "where", "(I)I"⟩
abbrev cX11_now : ByteArray := prog_13_method_28_code
def yX11_now : MethodName := ⟨RX11, "now", "(I)I"⟩
abbrev cX11_stepsOf : ByteArray := prog_13_method_29_code
def yX11_stepsOf : MethodName := ⟨RX11, "stepsOf", "(I)I"⟩
abbrev cX11_digsOf : ByteArray := prog_13_method_30_code
def yX11_digsOf : MethodName := ⟨RX11, "digsOf", "(I)I"⟩
abbrev cX11_isTurningFirst : ByteArray := prog_13_method_31_code
def yX11_isTurningFirst : MethodName := ⟨RX11, "isTurningFirst", "(I)Z"⟩
abbrev cX11_forCell : ByteArray := prog_13_method_32_code
def yX11_forCell : MethodName := ⟨RX11, "forCell", "(I)I"⟩
abbrev cX11_forSecret : ByteArray := prog_13_method_33_code
def yX11_forSecret : MethodName := ⟨RX11, "forSecret", "(I)I"⟩
abbrev cX11_addsMole : ByteArray := prog_13_method_34_code
def yX11_addsMole : MethodName := ⟨RX11, "addsMole", "(III)I"⟩
abbrev cX11_mole : ByteArray := prog_13_method_35_code
def yX11_mole : MethodName := ⟨RX11, "mole", "(III)I"⟩
abbrev cX11_of : ByteArray := prog_13_method_36_code
def yX11_of : MethodName := ⟨RX11, "of", "(II)I"⟩
abbrev cX11_charges : ByteArray := prog_13_method_37_code
def yX11_charges : MethodName := ⟨RX11, "charges", "(II)I"⟩
abbrev cX11_set : ByteArray := prog_13_method_38_code
def yX11_set : MethodName := ⟨RX11, "set", "(III)I"⟩
abbrev cX11_turn : ByteArray := prog_13_method_39_code
def yX11_turn : MethodName := ⟨RX11, "turn", "(II)I"⟩
abbrev cX11_isUnder : ByteArray := prog_13_method_40_code
def yX11_isUnder : MethodName := ⟨RX11, "isUnder", "(II)Z"⟩
abbrev cX11_as : ByteArray := prog_13_method_41_code
def yX11_as : MethodName := ⟨RX11, "as", "(II)I"⟩
abbrev cX11_aimOf : ByteArray := prog_13_method_42_code
def yX11_aimOf : MethodName := ⟨RX11, "aimOf", "(I)I"⟩
abbrev cX11_isPaid : ByteArray := prog_13_method_43_code
def yX11_isPaid : MethodName := ⟨RX11, "isPaid", "(II)V"⟩
abbrev cX11_nextTo : ByteArray := prog_13_method_44_code
def yX11_nextTo : MethodName := ⟨RX11, "nextTo", "(II)I"⟩
abbrev cX11_step : ByteArray := prog_13_method_45_code
def yX11_step : MethodName := ⟨RX11, "step", "(I)V"⟩
abbrev cX11_bringsOut : ByteArray := prog_13_method_46_code
def yX11_bringsOut : MethodName := ⟨RX11, "bringsOut", "(I)V"⟩
abbrev cX11_picksUp : ByteArray := prog_13_method_47_code
def yX11_picksUp : MethodName := ⟨RX11, "picksUp", "(I)V"⟩
abbrev cX11_looks : ByteArray := prog_13_method_48_code
def yX11_looks : MethodName := ⟨RX11, "looks", "(I)V"⟩
abbrev cX11_minute : ByteArray := prog_13_method_49_code
def yX11_minute : MethodName := ⟨RX11, "minute", "()V"⟩
abbrev cX11_minutesGo : ByteArray := prog_13_method_50_code
def yX11_minutesGo : MethodName := ⟨RX11, "minutesGo", "(I)V"⟩
abbrev cX11_minutes : ByteArray := prog_13_method_51_code
def yX11_minutes : MethodName := ⟨RX11, "minutes", "(I)I"⟩
abbrev cX11_isAhead : ByteArray := prog_13_method_52_code
def yX11_isAhead : MethodName := ⟨RX11, "isAhead", "(I)Z"⟩
abbrev cX11_behind : ByteArray := prog_13_method_53_code
def yX11_behind : MethodName := ⟨RX11, "behind", "(II)I"⟩
abbrev cX11_handsBehind : ByteArray := prog_13_method_54_code
def yX11_handsBehind : MethodName := ⟨RX11, "handsBehind", "(I)I"⟩
abbrev cX11_outBehind : ByteArray := prog_13_method_55_code
def yX11_outBehind : MethodName := ⟨RX11, "outBehind", "(I)I"⟩
abbrev cX11_on : ByteArray := prog_13_method_56_code
def yX11_on : MethodName := ⟨RX11, "on", "(III)I"⟩
abbrev cX11_then : ByteArray := prog_13_method_57_code
def yX11_then : MethodName := ⟨RX11, "then", "(II)I"⟩
abbrev cX11_firstAs : ByteArray := prog_13_method_58_code
def yX11_firstAs : MethodName := ⟨RX11, "firstAs", "(III)I"⟩
abbrev cX11_toldFirst : ByteArray := prog_13_method_59_code
def yX11_toldFirst : MethodName := ⟨RX11, "toldFirst", "(II)I"⟩
abbrev cX11_out : ByteArray := prog_13_method_60_code
def yX11_out : MethodName := ⟨RX11, "out", "(I)I"⟩
abbrev cX11_dug : ByteArray := prog_13_method_61_code
def yX11_dug : MethodName := ⟨RX11, "dug", "(I)I"⟩
abbrev cX11_comes : ByteArray := prog_13_method_62_code
def yX11_comes : MethodName := ⟨RX11, "comes", "(II)I"⟩
abbrev cX11_isSoon : ByteArray := prog_13_method_63_code
def yX11_isSoon : MethodName := ⟨RX11, "isSoon", "(I)Z"⟩
abbrev cX11_kind : ByteArray := prog_13_method_64_code
def yX11_kind : MethodName := ⟨RX11, "kind", "(II)I"⟩
abbrev cX11_lead : ByteArray := prog_13_method_65_code
def yX11_lead : MethodName := ⟨RX11, "lead", "(II)I"⟩
abbrev cX11_dig : ByteArray := prog_13_method_66_code
def yX11_dig : MethodName := ⟨RX11, "dig", "(I)I"⟩
abbrev cX11_leave : ByteArray := prog_13_method_67_code
def yX11_leave : MethodName := ⟨RX11, "leave", "(I)I"⟩
abbrev cX11_dismiss : ByteArray := prog_13_method_68_code
def yX11_dismiss : MethodName := ⟨RX11, "dismiss", "(I)I"⟩
abbrev cX11_richest : ByteArray := prog_13_method_69_code
def yX11_richest : MethodName := ⟨RX11, "richest", "(I)I"⟩
abbrev cX11_feed : ByteArray := prog_13_method_70_code
def yX11_feed : MethodName := ⟨RX11, "feed", "(II)I"⟩
abbrev cX11_wipe : ByteArray := prog_13_method_71_code
def yX11_wipe : MethodName := ⟨RX11, "wipe", "()I"⟩
abbrev cX11_byteAt : ByteArray := prog_13_method_72_code
def yX11_byteAt : MethodName := ⟨RX11, "byteAt", "(I)I"⟩
abbrev cX11_isLetter : ByteArray := prog_13_method_73_code
def yX11_isLetter : MethodName := ⟨RX11, "isLetter", "(I)Z"⟩
abbrev cX11_isDigit : ByteArray := prog_13_method_74_code
def yX11_isDigit : MethodName := ⟨RX11, "isDigit", "(I)Z"⟩
abbrev cX11_token : ByteArray := prog_13_method_75_code
def yX11_token : MethodName := ⟨RX11, "token", "()V"⟩
abbrev cX11_must : ByteArray := prog_13_method_76_code
def yX11_must : MethodName := ⟨RX11, "must", "(Z)V"⟩
abbrev cX11_word : ByteArray := prog_13_method_77_code
def yX11_word : MethodName := ⟨RX11, "word", "()J"⟩
abbrev cX11_number : ByteArray := prog_13_method_78_code
def yX11_number : MethodName := ⟨RX11, "number", "(II)V"⟩
abbrev cX11_kindHere : ByteArray := prog_13_method_79_code
def yX11_kindHere : MethodName := ⟨RX11, "kindHere", "()I"⟩
abbrev cX11_moleItem : ByteArray := prog_13_method_80_code
def yX11_moleItem : MethodName := ⟨RX11, "moleItem", "(I)V"⟩
abbrev cX11_dugItem : ByteArray := prog_13_method_81_code
def yX11_dugItem : MethodName := ⟨RX11, "dugItem", "()V"⟩
abbrev cX11_secretItem : ByteArray := prog_13_method_82_code
def yX11_secretItem : MethodName := ⟨RX11, "secretItem", "()V"⟩
abbrev cX11_item : ByteArray := prog_13_method_83_code
def yX11_item : MethodName := ⟨RX11, "item", "()V"⟩
abbrev cX11_shire : ByteArray := prog_13_method_84_code
def yX11_shire : MethodName := ⟨RX11, "shire", "()I"⟩
abbrev cX11_isOne : ByteArray := prog_13_method_85_code
def yX11_isOne : MethodName := ⟨RX11, "isOne", "(I)Z"⟩
abbrev cX11_sheet : ByteArray := prog_13_method_86_code
def yX11_sheet : MethodName := ⟨RX11, "sheet", "(III)I"⟩
abbrev cX11_narrowed : ByteArray := prog_13_method_87_code
def yX11_narrowed : MethodName := ⟨RX11, "narrowed", "(IJ)J"⟩
abbrev cX11_wrongSheet : ByteArray := prog_13_method_88_code
def yX11_wrongSheet : MethodName := ⟨RX11, "wrongSheet", "(I)I"⟩
abbrev cX11_write : ByteArray := prog_13_method_89_code
def yX11_write : MethodName := ⟨RX11, "write", "(IIJ)J"⟩
abbrev cX11_copy : ByteArray := prog_13_method_90_code
def yX11_copy : MethodName := ⟨RX11, "copy", "(IIIII)I"⟩
abbrev cX11_lays : ByteArray := prog_13_method_91_code
def yX11_lays : MethodName := ⟨RX11, "lays", "(I)I"⟩
abbrev cX11_book : ByteArray := prog_13_method_92_code
def yX11_book : MethodName := ⟨RX11, "book", "(II)I"⟩
abbrev cX11_isBook : ByteArray := prog_13_method_93_code
def yX11_isBook : MethodName := ⟨RX11, "isBook", "(II)Z"⟩
abbrev cX11_read : ByteArray := prog_13_method_94_code
def yX11_read : MethodName := ⟨RX11, "read", "(II)I"⟩
abbrev cX11_image : ByteArray := prog_13_method_95_code
def yX11_image : MethodName := ⟨RX11, "image", "()I"⟩
abbrev cX11_undo : ByteArray := prog_13_method_96_code
def yX11_undo : MethodName := ⟨RX11, "undo", "()I"⟩
abbrev cX11_tear : ByteArray := prog_13_method_97_code
def yX11_tear : MethodName := ⟨RX11, "tear", "()I"⟩
abbrev cX11_dugMany : ByteArray := prog_13_method_98_code
def yX11_dugMany : MethodName := ⟨RX11, "dugMany", "()I"⟩
abbrev cX11_count : ByteArray := prog_13_method_99_code
def yX11_count : MethodName := ⟨RX11, "count", "(I)I"⟩
abbrev cX11_status : ByteArray := prog_13_method_100_code
def yX11_status : MethodName := ⟨RX11, "status", "(I)I"⟩
def RJ6 : String := "java/lang/Integer"
abbrev cJ6_bitCount_0f7a4 : ByteArray := prog_14_method_49_code
def yJ6_bitCount_0f7a4 : MethodName := ⟨RJ6, "bitCount", "(I)I"⟩
def RJ9 : String := "java/lang/Math"
abbrev cJ9_min_7cf53 : ByteArray := prog_15_method_69_code
def yJ9_min_7cf53 : MethodName := ⟨RJ9, "min", "(II)I"⟩
def RJ0 : String := "java/lang/String"
abbrev cJ0_length_8abf5 : ByteArray := prog_16_method_54_code
def yJ0_length_8abf5 : MethodName := ⟨RJ0, "length", "()I"⟩
abbrev cJ0_charAt_5068e : ByteArray := prog_16_method_56_code
def yJ0_charAt_5068e : MethodName := ⟨RJ0, "charAt", "(I)C"⟩
abbrev cJ0_coder_7d493 : ByteArray := prog_16_method_152_code
def yJ0_coder_7d493 : MethodName := ⟨RJ0, "coder", "()B"⟩
abbrev cJ0_isLatin1_aae02 : ByteArray := prog_16_method_154_code
def yJ0_isLatin1_aae02 : MethodName := ⟨RJ0, "isLatin1", "()Z"⟩
abbrev cJ0_checkIndex_df160 : ByteArray := prog_16_method_155_code
def yJ0_checkIndex_df160 : MethodName := ⟨RJ0, "checkIndex", "(II)V"⟩
def RJ1 : String := "java/lang/StringLatin1"
abbrev cJ1_charAt_3b067 : ByteArray := prog_17_method_2_code
def yJ1_charAt_3b067 : MethodName := ⟨RJ1, "charAt", "([BI)C"⟩
def RJ2 : String := "java/lang/StringUTF16"
abbrev cJ2_getChar_3b067 : ByteArray := prog_18_method_5_code
def yJ2_getChar_3b067 : MethodName := ⟨RJ2, "getChar", "([BI)C"⟩
abbrev cJ2_length_9d52b : ByteArray := prog_18_method_6_code
def yJ2_length_9d52b : MethodName := ⟨RJ2, "length", "([B)I"⟩
abbrev cJ2_charAt_3b067 : ByteArray := prog_18_method_83_code
def yJ2_charAt_3b067 : MethodName := ⟨RJ2, "charAt", "([BI)C"⟩
abbrev cJ2_checkIndex_2214a : ByteArray := prog_18_method_91_code
def yJ2_checkIndex_2214a : MethodName := ⟨RJ2, "checkIndex", "(I[B)V"⟩
def RJ10 : String := "java/lang/System"
def RJ7 : String := "java/util/Arrays"
abbrev cJ7_fill_d0a16 : ByteArray := prog_20_method_101_code
def yJ7_fill_d0a16 : MethodName := ⟨RJ7, "fill", "([JJ)V"⟩
abbrev cJ7_fill_53178 : ByteArray := prog_20_method_103_code
def yJ7_fill_53178 : MethodName := ⟨RJ7, "fill", "([II)V"⟩
def RJ3 : String := "jdk/internal/util/Preconditions"
abbrev cJ3_checkIndex_8e157 : ByteArray := prog_21_method_11_code
def yJ3_checkIndex_8e157 : MethodName := ⟨RJ3, "checkIndex", "(IILjava/util/function/BiFunction;)I"⟩
def RL : String := "MoleSecretsLaw"
abbrev cL_law : ByteArray := code
def yL_law : MethodName := ⟨RL, "law", "([I)Z"⟩
abbrev vwCl : List vw_C := [(RX0, TX0, 0), (RX1, TX1, 0), (RX2, TX2, 1), (RX3, TX3, 0), (RX4, TX4, 0), (RX5, TX5, 0), (RX6, TX6, 0), (RX7, TX7, 3), (RX8, TX8, 13), (RX9, TX9, 6), (RX10, TX10, 7), (RX11, TX11, 17)]
