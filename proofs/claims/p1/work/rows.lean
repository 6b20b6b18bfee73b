section
-- ===== PART A: goes FIRST, ahead of the names: the tables' words, and 'selects' of the private methods out of them =====
/-- a private method of a class that the tables say can be made, by its rows of tables_1 -/
def lw_okq (q : MethodName × Nat) : Prop := (q.1.cls ≠ "java/lang/invoke/MethodHandle" ∧ q.1.cls ≠ "java/lang/invoke/VarHandle") ∧ Cond.instantiable q.1.cls q.2 ∈ tables_1 ∧ Cond.privateMethod q.1 ∈ tables_1 ∧ Cond.instanceMethod q.1 ∈ tables_1
theorem lw_p0 : lw_okq (⟨"VoiceHeaps$RuleText", "endsBehindBlanks", "()Z"⟩, 5) := ⟨⟨by decide +kernel, by decide +kernel⟩, List.mem_of_getElem? (i := 30) (by decide +kernel), List.mem_of_getElem? (i := 400) (by decide +kernel), List.mem_of_getElem? (i := 401) (by decide +kernel)⟩
theorem lw_p1 : lw_okq (⟨"VoiceHeaps$RuleText", "adopt", "()V"⟩, 5) := ⟨⟨by decide +kernel, by decide +kernel⟩, List.mem_of_getElem? (i := 30) (by decide +kernel), List.mem_of_getElem? (i := 404) (by decide +kernel), List.mem_of_getElem? (i := 405) (by decide +kernel)⟩
theorem lw_p2 : lw_okq (⟨"VoiceHeaps$RuleText", "readItem", "()I"⟩, 5) := ⟨⟨by decide +kernel, by decide +kernel⟩, List.mem_of_getElem? (i := 30) (by decide +kernel), List.mem_of_getElem? (i := 408) (by decide +kernel), List.mem_of_getElem? (i := 409) (by decide +kernel)⟩
theorem lw_p3 : lw_okq (⟨"VoiceHeaps$RuleText", "readWord", "()I"⟩, 5) := ⟨⟨by decide +kernel, by decide +kernel⟩, List.mem_of_getElem? (i := 30) (by decide +kernel), List.mem_of_getElem? (i := 412) (by decide +kernel), List.mem_of_getElem? (i := 413) (by decide +kernel)⟩
theorem lw_p4 : lw_okq (⟨"VoiceHeaps$RuleText", "isWord", "(Ljava/lang/String;II)Z"⟩, 5) := ⟨⟨by decide +kernel, by decide +kernel⟩, List.mem_of_getElem? (i := 30) (by decide +kernel), List.mem_of_getElem? (i := 428) (by decide +kernel), List.mem_of_getElem? (i := 429) (by decide +kernel)⟩
theorem lw_p5 : lw_okq (⟨"VoiceHeaps$RuleText", "readNumber", "()I"⟩, 5) := ⟨⟨by decide +kernel, by decide +kernel⟩, List.mem_of_getElem? (i := 30) (by decide +kernel), List.mem_of_getElem? (i := 480) (by decide +kernel), List.mem_of_getElem? (i := 481) (by decide +kernel)⟩
theorem lw_p6 : lw_okq (⟨"VoiceHeaps", "nothingIsFound", "()V"⟩, 16) := ⟨⟨by decide +kernel, by decide +kernel⟩, List.mem_of_getElem? (i := 22) (by decide +kernel), List.mem_of_getElem? (i := 492) (by decide +kernel), List.mem_of_getElem? (i := 493) (by decide +kernel)⟩
theorem lw_p7 : lw_okq (⟨"VoiceHeaps", "areRows", "(II)Z"⟩, 16) := ⟨⟨by decide +kernel, by decide +kernel⟩, List.mem_of_getElem? (i := 22) (by decide +kernel), List.mem_of_getElem? (i := 529) (by decide +kernel), List.mem_of_getElem? (i := 530) (by decide +kernel)⟩
theorem lw_p8 : lw_okq (⟨"VoiceHeaps", "cutNow", "()V"⟩, 16) := ⟨⟨by decide +kernel, by decide +kernel⟩, List.mem_of_getElem? (i := 22) (by decide +kernel), List.mem_of_getElem? (i := 548) (by decide +kernel), List.mem_of_getElem? (i := 549) (by decide +kernel)⟩
theorem lw_p9 : lw_okq (⟨"VoiceHeaps$Cutting", "findCosts", "(LVoiceHeaps$RowBook;LVoiceHeaps$Gathering;III)V"⟩, 12) := ⟨⟨by decide +kernel, by decide +kernel⟩, List.mem_of_getElem? (i := 104) (by decide +kernel), List.mem_of_getElem? (i := 561) (by decide +kernel), List.mem_of_getElem? (i := 562) (by decide +kernel)⟩
theorem lw_p10 : lw_okq (⟨"VoiceHeaps$Cutting", "addPieces", "(LVoiceHeaps$RowBook;LVoiceHeaps$Gathering;II)V"⟩, 12) := ⟨⟨by decide +kernel, by decide +kernel⟩, List.mem_of_getElem? (i := 104) (by decide +kernel), List.mem_of_getElem? (i := 575) (by decide +kernel), List.mem_of_getElem? (i := 576) (by decide +kernel)⟩
theorem lw_p11 : lw_okq (⟨"VoiceHeaps", "isPiece", "(I)Z"⟩, 16) := ⟨⟨by decide +kernel, by decide +kernel⟩, List.mem_of_getElem? (i := 22) (by decide +kernel), List.mem_of_getElem? (i := 589) (by decide +kernel), List.mem_of_getElem? (i := 590) (by decide +kernel)⟩
theorem lw_p12 : lw_okq (⟨"VoiceHeaps", "heapNow", "()Z"⟩, 16) := ⟨⟨by decide +kernel, by decide +kernel⟩, List.mem_of_getElem? (i := 22) (by decide +kernel), List.mem_of_getElem? (i := 620) (by decide +kernel), List.mem_of_getElem? (i := 621) (by decide +kernel)⟩
theorem lw_p13 : lw_okq (⟨"VoiceHeaps$Bonds", "fillGains", "(I)V"⟩, 4) := ⟨⟨by decide +kernel, by decide +kernel⟩, List.mem_of_getElem? (i := 166) (by decide +kernel), List.mem_of_getElem? (i := 635) (by decide +kernel), List.mem_of_getElem? (i := 636) (by decide +kernel)⟩
theorem lw_p14 : lw_okq (⟨"VoiceHeaps$AllHeapings", "meet", "(IIIJ)V"⟩, 10) := ⟨⟨by decide +kernel, by decide +kernel⟩, List.mem_of_getElem? (i := 187) (by decide +kernel), List.mem_of_getElem? (i := 648) (by decide +kernel), List.mem_of_getElem? (i := 649) (by decide +kernel)⟩
theorem lw_p15 : lw_okq (⟨"VoiceHeaps$AllHeapings", "meetNear", "(IIJ)V"⟩, 10) := ⟨⟨by decide +kernel, by decide +kernel⟩, List.mem_of_getElem? (i := 187) (by decide +kernel), List.mem_of_getElem? (i := 652) (by decide +kernel), List.mem_of_getElem? (i := 653) (by decide +kernel)⟩
def lw_privs_1 : List (MethodName × Nat) := [(⟨"VoiceHeaps$RuleText", "endsBehindBlanks", "()Z"⟩, 5), (⟨"VoiceHeaps$RuleText", "adopt", "()V"⟩, 5), (⟨"VoiceHeaps$RuleText", "readItem", "()I"⟩, 5), (⟨"VoiceHeaps$RuleText", "readWord", "()I"⟩, 5), (⟨"VoiceHeaps$RuleText", "isWord", "(Ljava/lang/String;II)Z"⟩, 5), (⟨"VoiceHeaps$RuleText", "readNumber", "()I"⟩, 5), (⟨"VoiceHeaps", "nothingIsFound", "()V"⟩, 16), (⟨"VoiceHeaps", "areRows", "(II)Z"⟩, 16), (⟨"VoiceHeaps", "cutNow", "()V"⟩, 16), (⟨"VoiceHeaps$Cutting", "findCosts", "(LVoiceHeaps$RowBook;LVoiceHeaps$Gathering;III)V"⟩, 12), (⟨"VoiceHeaps$Cutting", "addPieces", "(LVoiceHeaps$RowBook;LVoiceHeaps$Gathering;II)V"⟩, 12), (⟨"VoiceHeaps", "isPiece", "(I)Z"⟩, 16), (⟨"VoiceHeaps", "heapNow", "()Z"⟩, 16), (⟨"VoiceHeaps$Bonds", "fillGains", "(I)V"⟩, 4), (⟨"VoiceHeaps$AllHeapings", "meet", "(IIIJ)V"⟩, 10), (⟨"VoiceHeaps$AllHeapings", "meetNear", "(IIJ)V"⟩, 10)]
theorem lw_r1 : ∀ q ∈ lw_privs_1, lw_okq q := List.forall_mem_cons.mpr ⟨lw_p0, List.forall_mem_cons.mpr ⟨lw_p1, List.forall_mem_cons.mpr ⟨lw_p2, List.forall_mem_cons.mpr ⟨lw_p3, List.forall_mem_cons.mpr ⟨lw_p4, List.forall_mem_cons.mpr ⟨lw_p5, List.forall_mem_cons.mpr ⟨lw_p6, List.forall_mem_cons.mpr ⟨lw_p7, List.forall_mem_cons.mpr ⟨lw_p8, List.forall_mem_cons.mpr ⟨lw_p9, List.forall_mem_cons.mpr ⟨lw_p10, List.forall_mem_cons.mpr ⟨lw_p11, List.forall_mem_cons.mpr ⟨lw_p12, List.forall_mem_cons.mpr ⟨lw_p13, List.forall_mem_cons.mpr ⟨lw_p14, List.forall_mem_cons.mpr ⟨lw_p15, fun _ h => absurd h List.not_mem_nil⟩⟩⟩⟩⟩⟩⟩⟩⟩⟩⟩⟩⟩⟩⟩⟩
theorem lw_p16 : lw_okq (⟨"VoiceHeaps$Bonds", "joinTwo", "(LVoiceHeaps$Heaping;)Z"⟩, 4) := ⟨⟨by decide +kernel, by decide +kernel⟩, List.mem_of_getElem? (i := 166) (by decide +kernel), List.mem_of_getElem? (i := 676) (by decide +kernel), List.mem_of_getElem? (i := 677) (by decide +kernel)⟩
theorem lw_p17 : lw_okq (⟨"VoiceHeaps$Bonds", "worthOf", "(LVoiceHeaps$Heaping;)I"⟩, 4) := ⟨⟨by decide +kernel, by decide +kernel⟩, List.mem_of_getElem? (i := 166) (by decide +kernel), List.mem_of_getElem? (i := 685) (by decide +kernel), List.mem_of_getElem? (i := 686) (by decide +kernel)⟩
theorem lw_p18 : lw_okq (⟨"VoiceHeaps", "byWay", "(I)LVoiceHeaps$Heaping;"⟩, 16) := ⟨⟨by decide +kernel, by decide +kernel⟩, List.mem_of_getElem? (i := 22) (by decide +kernel), List.mem_of_getElem? (i := 689) (by decide +kernel), List.mem_of_getElem? (i := 690) (by decide +kernel)⟩
theorem lw_p19 : lw_okq (⟨"VoiceHeaps", "nearNow", "()V"⟩, 16) := ⟨⟨by decide +kernel, by decide +kernel⟩, List.mem_of_getElem? (i := 22) (by decide +kernel), List.mem_of_getElem? (i := 701) (by decide +kernel), List.mem_of_getElem? (i := 702) (by decide +kernel)⟩
theorem lw_p20 : lw_okq (⟨"VoiceHeaps", "refusedHeap", "(I)I"⟩, 16) := ⟨⟨by decide +kernel, by decide +kernel⟩, List.mem_of_getElem? (i := 22) (by decide +kernel), List.mem_of_getElem? (i := 725) (by decide +kernel), List.mem_of_getElem? (i := 726) (by decide +kernel)⟩
theorem lw_p21 : lw_okq (⟨"VoiceHeaps$Heaping", "offOfTwo", "(LVoiceHeaps$Cutting;III)I"⟩, 5) := ⟨⟨by decide +kernel, by decide +kernel⟩, List.mem_of_getElem? (i := 193) (by decide +kernel), List.mem_of_getElem? (i := 742) (by decide +kernel), List.mem_of_getElem? (i := 743) (by decide +kernel)⟩
theorem lw_p22 : lw_okq (⟨"VoiceHeaps$KeptVoices", "fillOffs", "(LVoiceHeaps$Cutting;II)V"⟩, 4) := ⟨⟨by decide +kernel, by decide +kernel⟩, List.mem_of_getElem? (i := 262) (by decide +kernel), List.mem_of_getElem? (i := 795) (by decide +kernel), List.mem_of_getElem? (i := 796) (by decide +kernel)⟩
theorem lw_p23 : lw_okq (⟨"VoiceHeaps", "heapOfRow", "(I)I"⟩, 16) := ⟨⟨by decide +kernel, by decide +kernel⟩, List.mem_of_getElem? (i := 22) (by decide +kernel), List.mem_of_getElem? (i := 809) (by decide +kernel), List.mem_of_getElem? (i := 810) (by decide +kernel)⟩
theorem lw_p24 : lw_okq (⟨"VoiceHeaps$WordBook", "sharedRows", "(LVoiceHeaps$Cutting;II)I"⟩, 3) := ⟨⟨by decide +kernel, by decide +kernel⟩, List.mem_of_getElem? (i := 283) (by decide +kernel), List.mem_of_getElem? (i := 833) (by decide +kernel), List.mem_of_getElem? (i := 834) (by decide +kernel)⟩
theorem lw_p25 : lw_okq (⟨"VoiceHeaps$Verdict", "countTogether", "(LVoiceHeaps$RowBook;LVoiceHeaps$Cutting;LVoiceHeaps$Heaping;)I"⟩, 2) := ⟨⟨by decide +kernel, by decide +kernel⟩, List.mem_of_getElem? (i := 300) (by decide +kernel), List.mem_of_getElem? (i := 867) (by decide +kernel), List.mem_of_getElem? (i := 868) (by decide +kernel)⟩
theorem lw_p26 : lw_okq (⟨"VoiceHeaps$Verdict", "giveOne", "(I[I)V"⟩, 2) := ⟨⟨by decide +kernel, by decide +kernel⟩, List.mem_of_getElem? (i := 300) (by decide +kernel), List.mem_of_getElem? (i := 872) (by decide +kernel), List.mem_of_getElem? (i := 873) (by decide +kernel)⟩
theorem lw_p27 : lw_okq (⟨"VoiceHeaps$Kinds", "span", "(LVoiceHeaps$Cutting;I)I"⟩, 1) := ⟨⟨by decide +kernel, by decide +kernel⟩, List.mem_of_getElem? (i := 314) (by decide +kernel), List.mem_of_getElem? (i := 885) (by decide +kernel), List.mem_of_getElem? (i := 886) (by decide +kernel)⟩
theorem lw_p28 : lw_okq (⟨"VoiceHeaps$Kinds", "voice", "(LVoiceHeaps$Cutting;I)I"⟩, 1) := ⟨⟨by decide +kernel, by decide +kernel⟩, List.mem_of_getElem? (i := 314) (by decide +kernel), List.mem_of_getElem? (i := 889) (by decide +kernel), List.mem_of_getElem? (i := 890) (by decide +kernel)⟩
theorem lw_p29 : lw_okq (⟨"VoiceHeaps$Kinds", "talk", "(LVoiceHeaps$Cutting;I)I"⟩, 1) := ⟨⟨by decide +kernel, by decide +kernel⟩, List.mem_of_getElem? (i := 314) (by decide +kernel), List.mem_of_getElem? (i := 895) (by decide +kernel), List.mem_of_getElem? (i := 896) (by decide +kernel)⟩
theorem lw_p30 : lw_okq (⟨"VoiceHeaps$Kinds", "two", "(LVoiceHeaps$Cutting;I)I"⟩, 1) := ⟨⟨by decide +kernel, by decide +kernel⟩, List.mem_of_getElem? (i := 314) (by decide +kernel), List.mem_of_getElem? (i := 900) (by decide +kernel), List.mem_of_getElem? (i := 901) (by decide +kernel)⟩
theorem lw_p31 : lw_okq (⟨"VoiceHeaps$Kinds", "brief", "(LVoiceHeaps$Cutting;I)I"⟩, 1) := ⟨⟨by decide +kernel, by decide +kernel⟩, List.mem_of_getElem? (i := 314) (by decide +kernel), List.mem_of_getElem? (i := 905) (by decide +kernel), List.mem_of_getElem? (i := 906) (by decide +kernel)⟩
def lw_privs_2 : List (MethodName × Nat) := [(⟨"VoiceHeaps$Bonds", "joinTwo", "(LVoiceHeaps$Heaping;)Z"⟩, 4), (⟨"VoiceHeaps$Bonds", "worthOf", "(LVoiceHeaps$Heaping;)I"⟩, 4), (⟨"VoiceHeaps", "byWay", "(I)LVoiceHeaps$Heaping;"⟩, 16), (⟨"VoiceHeaps", "nearNow", "()V"⟩, 16), (⟨"VoiceHeaps", "refusedHeap", "(I)I"⟩, 16), (⟨"VoiceHeaps$Heaping", "offOfTwo", "(LVoiceHeaps$Cutting;III)I"⟩, 5), (⟨"VoiceHeaps$KeptVoices", "fillOffs", "(LVoiceHeaps$Cutting;II)V"⟩, 4), (⟨"VoiceHeaps", "heapOfRow", "(I)I"⟩, 16), (⟨"VoiceHeaps$WordBook", "sharedRows", "(LVoiceHeaps$Cutting;II)I"⟩, 3), (⟨"VoiceHeaps$Verdict", "countTogether", "(LVoiceHeaps$RowBook;LVoiceHeaps$Cutting;LVoiceHeaps$Heaping;)I"⟩, 2), (⟨"VoiceHeaps$Verdict", "giveOne", "(I[I)V"⟩, 2), (⟨"VoiceHeaps$Kinds", "span", "(LVoiceHeaps$Cutting;I)I"⟩, 1), (⟨"VoiceHeaps$Kinds", "voice", "(LVoiceHeaps$Cutting;I)I"⟩, 1), (⟨"VoiceHeaps$Kinds", "talk", "(LVoiceHeaps$Cutting;I)I"⟩, 1), (⟨"VoiceHeaps$Kinds", "two", "(LVoiceHeaps$Cutting;I)I"⟩, 1), (⟨"VoiceHeaps$Kinds", "brief", "(LVoiceHeaps$Cutting;I)I"⟩, 1)]
theorem lw_r2 : ∀ q ∈ lw_privs_2, lw_okq q := List.forall_mem_cons.mpr ⟨lw_p16, List.forall_mem_cons.mpr ⟨lw_p17, List.forall_mem_cons.mpr ⟨lw_p18, List.forall_mem_cons.mpr ⟨lw_p19, List.forall_mem_cons.mpr ⟨lw_p20, List.forall_mem_cons.mpr ⟨lw_p21, List.forall_mem_cons.mpr ⟨lw_p22, List.forall_mem_cons.mpr ⟨lw_p23, List.forall_mem_cons.mpr ⟨lw_p24, List.forall_mem_cons.mpr ⟨lw_p25, List.forall_mem_cons.mpr ⟨lw_p26, List.forall_mem_cons.mpr ⟨lw_p27, List.forall_mem_cons.mpr ⟨lw_p28, List.forall_mem_cons.mpr ⟨lw_p29, List.forall_mem_cons.mpr ⟨lw_p30, List.forall_mem_cons.mpr ⟨lw_p31, fun _ h => absurd h List.not_mem_nil⟩⟩⟩⟩⟩⟩⟩⟩⟩⟩⟩⟩⟩⟩⟩⟩
theorem lw_p32 : lw_okq (⟨"VoiceHeaps$Kinds", "far", "(LVoiceHeaps$Cutting;I)I"⟩, 1) := ⟨⟨by decide +kernel, by decide +kernel⟩, List.mem_of_getElem? (i := 314) (by decide +kernel), List.mem_of_getElem? (i := 911) (by decide +kernel), List.mem_of_getElem? (i := 912) (by decide +kernel)⟩
theorem lw_p33 : lw_okq (⟨"VoiceHeaps$Kinds", "known", "(LVoiceHeaps$Cutting;II)I"⟩, 1) := ⟨⟨by decide +kernel, by decide +kernel⟩, List.mem_of_getElem? (i := 314) (by decide +kernel), List.mem_of_getElem? (i := 916) (by decide +kernel), List.mem_of_getElem? (i := 917) (by decide +kernel)⟩
theorem lw_p34 : lw_okq (⟨"VoiceHeaps$Kinds", "noise", "(LVoiceHeaps$Cutting;I)I"⟩, 1) := ⟨⟨by decide +kernel, by decide +kernel⟩, List.mem_of_getElem? (i := 314) (by decide +kernel), List.mem_of_getElem? (i := 921) (by decide +kernel), List.mem_of_getElem? (i := 922) (by decide +kernel)⟩
theorem lw_p35 : lw_okq (⟨"VoiceHeapsModel", "atFirst", "(I)V"⟩, 45) := ⟨⟨by decide +kernel, by decide +kernel⟩, List.mem_of_getElem? (i := 942) (by decide +kernel), List.mem_of_getElem? (i := 948) (by decide +kernel), List.mem_of_getElem? (i := 949) (by decide +kernel)⟩
theorem lw_p36 : lw_okq (⟨"VoiceHeapsModel", "next", "()V"⟩, 45) := ⟨⟨by decide +kernel, by decide +kernel⟩, List.mem_of_getElem? (i := 942) (by decide +kernel), List.mem_of_getElem? (i := 1104) (by decide +kernel), List.mem_of_getElem? (i := 1105) (by decide +kernel)⟩
theorem lw_p37 : lw_okq (⟨"VoiceHeapsModel", "here", "()I"⟩, 45) := ⟨⟨by decide +kernel, by decide +kernel⟩, List.mem_of_getElem? (i := 942) (by decide +kernel), List.mem_of_getElem? (i := 1108) (by decide +kernel), List.mem_of_getElem? (i := 1109) (by decide +kernel)⟩
theorem lw_p38 : lw_okq (⟨"VoiceHeapsModel", "wordOf", "(II)I"⟩, 45) := ⟨⟨by decide +kernel, by decide +kernel⟩, List.mem_of_getElem? (i := 942) (by decide +kernel), List.mem_of_getElem? (i := 1112) (by decide +kernel), List.mem_of_getElem? (i := 1113) (by decide +kernel)⟩
theorem lw_p39 : lw_okq (⟨"VoiceHeapsModel", "due", "(Z)I"⟩, 45) := ⟨⟨by decide +kernel, by decide +kernel⟩, List.mem_of_getElem? (i := 942) (by decide +kernel), List.mem_of_getElem? (i := 1124) (by decide +kernel), List.mem_of_getElem? (i := 1125) (by decide +kernel)⟩
theorem lw_p40 : lw_okq (⟨"VoiceHeapsModel", "addRow", "(IIIIZ)V"⟩, 45) := ⟨⟨by decide +kernel, by decide +kernel⟩, List.mem_of_getElem? (i := 942) (by decide +kernel), List.mem_of_getElem? (i := 1139) (by decide +kernel), List.mem_of_getElem? (i := 1140) (by decide +kernel)⟩
theorem lw_p41 : lw_okq (⟨"VoiceHeapsModel", "areRows", "(II)Z"⟩, 45) := ⟨⟨by decide +kernel, by decide +kernel⟩, List.mem_of_getElem? (i := 942) (by decide +kernel), List.mem_of_getElem? (i := 1151) (by decide +kernel), List.mem_of_getElem? (i := 1152) (by decide +kernel)⟩
theorem lw_p42 : lw_okq (⟨"VoiceHeapsModel", "isRow", "(I)Z"⟩, 45) := ⟨⟨by decide +kernel, by decide +kernel⟩, List.mem_of_getElem? (i := 942) (by decide +kernel), List.mem_of_getElem? (i := 1155) (by decide +kernel), List.mem_of_getElem? (i := 1156) (by decide +kernel)⟩
theorem lw_p43 : lw_okq (⟨"VoiceHeapsModel", "findPieces", "()V"⟩, 45) := ⟨⟨by decide +kernel, by decide +kernel⟩, List.mem_of_getElem? (i := 942) (by decide +kernel), List.mem_of_getElem? (i := 1167) (by decide +kernel), List.mem_of_getElem? (i := 1168) (by decide +kernel)⟩
theorem lw_p44 : lw_okq (⟨"VoiceHeapsModel", "isHeard", "(I)Z"⟩, 45) := ⟨⟨by decide +kernel, by decide +kernel⟩, List.mem_of_getElem? (i := 942) (by decide +kernel), List.mem_of_getElem? (i := 1171) (by decide +kernel), List.mem_of_getElem? (i := 1172) (by decide +kernel)⟩
theorem lw_p45 : lw_okq (⟨"VoiceHeapsModel", "cut", "(II)V"⟩, 45) := ⟨⟨by decide +kernel, by decide +kernel⟩, List.mem_of_getElem? (i := 942) (by decide +kernel), List.mem_of_getElem? (i := 1175) (by decide +kernel), List.mem_of_getElem? (i := 1176) (by decide +kernel)⟩
theorem lw_p46 : lw_okq (⟨"VoiceHeapsModel", "askRows", "(II)V"⟩, 45) := ⟨⟨by decide +kernel, by decide +kernel⟩, List.mem_of_getElem? (i := 942) (by decide +kernel), List.mem_of_getElem? (i := 1179) (by decide +kernel), List.mem_of_getElem? (i := 1180) (by decide +kernel)⟩
theorem lw_p47 : lw_okq (⟨"VoiceHeapsModel", "findMiddle", "()V"⟩, 45) := ⟨⟨by decide +kernel, by decide +kernel⟩, List.mem_of_getElem? (i := 942) (by decide +kernel), List.mem_of_getElem? (i := 1183) (by decide +kernel), List.mem_of_getElem? (i := 1184) (by decide +kernel)⟩
def lw_privs_3 : List (MethodName × Nat) := [(⟨"VoiceHeaps$Kinds", "far", "(LVoiceHeaps$Cutting;I)I"⟩, 1), (⟨"VoiceHeaps$Kinds", "known", "(LVoiceHeaps$Cutting;II)I"⟩, 1), (⟨"VoiceHeaps$Kinds", "noise", "(LVoiceHeaps$Cutting;I)I"⟩, 1), (⟨"VoiceHeapsModel", "atFirst", "(I)V"⟩, 45), (⟨"VoiceHeapsModel", "next", "()V"⟩, 45), (⟨"VoiceHeapsModel", "here", "()I"⟩, 45), (⟨"VoiceHeapsModel", "wordOf", "(II)I"⟩, 45), (⟨"VoiceHeapsModel", "due", "(Z)I"⟩, 45), (⟨"VoiceHeapsModel", "addRow", "(IIIIZ)V"⟩, 45), (⟨"VoiceHeapsModel", "areRows", "(II)Z"⟩, 45), (⟨"VoiceHeapsModel", "isRow", "(I)Z"⟩, 45), (⟨"VoiceHeapsModel", "findPieces", "()V"⟩, 45), (⟨"VoiceHeapsModel", "isHeard", "(I)Z"⟩, 45), (⟨"VoiceHeapsModel", "cut", "(II)V"⟩, 45), (⟨"VoiceHeapsModel", "askRows", "(II)V"⟩, 45), (⟨"VoiceHeapsModel", "findMiddle", "()V"⟩, 45)]
theorem lw_r3 : ∀ q ∈ lw_privs_3, lw_okq q := List.forall_mem_cons.mpr ⟨lw_p32, List.forall_mem_cons.mpr ⟨lw_p33, List.forall_mem_cons.mpr ⟨lw_p34, List.forall_mem_cons.mpr ⟨lw_p35, List.forall_mem_cons.mpr ⟨lw_p36, List.forall_mem_cons.mpr ⟨lw_p37, List.forall_mem_cons.mpr ⟨lw_p38, List.forall_mem_cons.mpr ⟨lw_p39, List.forall_mem_cons.mpr ⟨lw_p40, List.forall_mem_cons.mpr ⟨lw_p41, List.forall_mem_cons.mpr ⟨lw_p42, List.forall_mem_cons.mpr ⟨lw_p43, List.forall_mem_cons.mpr ⟨lw_p44, List.forall_mem_cons.mpr ⟨lw_p45, List.forall_mem_cons.mpr ⟨lw_p46, List.forall_mem_cons.mpr ⟨lw_p47, fun _ h => absurd h List.not_mem_nil⟩⟩⟩⟩⟩⟩⟩⟩⟩⟩⟩⟩⟩⟩⟩⟩
theorem lw_p48 : lw_okq (⟨"VoiceHeapsModel", "isPiece", "(I)Z"⟩, 45) := ⟨⟨by decide +kernel, by decide +kernel⟩, List.mem_of_getElem? (i := 942) (by decide +kernel), List.mem_of_getElem? (i := 1191) (by decide +kernel), List.mem_of_getElem? (i := 1192) (by decide +kernel)⟩
theorem lw_p49 : lw_okq (⟨"VoiceHeapsModel", "likeOf", "(II)I"⟩, 45) := ⟨⟨by decide +kernel, by decide +kernel⟩, List.mem_of_getElem? (i := 942) (by decide +kernel), List.mem_of_getElem? (i := 1203) (by decide +kernel), List.mem_of_getElem? (i := 1204) (by decide +kernel)⟩
theorem lw_p50 : lw_okq (⟨"VoiceHeapsModel", "findBest", "()Z"⟩, 45) := ⟨⟨by decide +kernel, by decide +kernel⟩, List.mem_of_getElem? (i := 942) (by decide +kernel), List.mem_of_getElem? (i := 1215) (by decide +kernel), List.mem_of_getElem? (i := 1216) (by decide +kernel)⟩
theorem lw_p51 : lw_okq (⟨"VoiceHeapsModel", "findGains", "()V"⟩, 45) := ⟨⟨by decide +kernel, by decide +kernel⟩, List.mem_of_getElem? (i := 942) (by decide +kernel), List.mem_of_getElem? (i := 1219) (by decide +kernel), List.mem_of_getElem? (i := 1220) (by decide +kernel)⟩
theorem lw_p52 : lw_okq (⟨"VoiceHeapsModel", "touch", "(II)Z"⟩, 45) := ⟨⟨by decide +kernel, by decide +kernel⟩, List.mem_of_getElem? (i := 942) (by decide +kernel), List.mem_of_getElem? (i := 1223) (by decide +kernel), List.mem_of_getElem? (i := 1224) (by decide +kernel)⟩
theorem lw_p53 : lw_okq (⟨"VoiceHeapsModel", "begin", "()V"⟩, 45) := ⟨⟨by decide +kernel, by decide +kernel⟩, List.mem_of_getElem? (i := 942) (by decide +kernel), List.mem_of_getElem? (i := 1227) (by decide +kernel), List.mem_of_getElem? (i := 1228) (by decide +kernel)⟩
theorem lw_p54 : lw_okq (⟨"VoiceHeapsModel", "worthOf", "([I)I"⟩, 45) := ⟨⟨by decide +kernel, by decide +kernel⟩, List.mem_of_getElem? (i := 942) (by decide +kernel), List.mem_of_getElem? (i := 1231) (by decide +kernel), List.mem_of_getElem? (i := 1232) (by decide +kernel)⟩
theorem lw_p55 : lw_okq (⟨"VoiceHeapsModel", "goOn", "()Z"⟩, 45) := ⟨⟨by decide +kernel, by decide +kernel⟩, List.mem_of_getElem? (i := 942) (by decide +kernel), List.mem_of_getElem? (i := 1235) (by decide +kernel), List.mem_of_getElem? (i := 1236) (by decide +kernel)⟩
theorem lw_p56 : lw_okq (⟨"VoiceHeapsModel", "join", "()V"⟩, 45) := ⟨⟨by decide +kernel, by decide +kernel⟩, List.mem_of_getElem? (i := 942) (by decide +kernel), List.mem_of_getElem? (i := 1242) (by decide +kernel), List.mem_of_getElem? (i := 1243) (by decide +kernel)⟩
theorem lw_p57 : lw_okq (⟨"VoiceHeapsModel", "wrong", "(I)I"⟩, 45) := ⟨⟨by decide +kernel, by decide +kernel⟩, List.mem_of_getElem? (i := 942) (by decide +kernel), List.mem_of_getElem? (i := 1262) (by decide +kernel), List.mem_of_getElem? (i := 1263) (by decide +kernel)⟩
theorem lw_p58 : lw_okq (⟨"VoiceHeapsModel", "findHeapMiddles", "()V"⟩, 45) := ⟨⟨by decide +kernel, by decide +kernel⟩, List.mem_of_getElem? (i := 942) (by decide +kernel), List.mem_of_getElem? (i := 1266) (by decide +kernel), List.mem_of_getElem? (i := 1267) (by decide +kernel)⟩
theorem lw_p59 : lw_okq (⟨"VoiceHeapsModel", "offsOf", "(II)I"⟩, 45) := ⟨⟨by decide +kernel, by decide +kernel⟩, List.mem_of_getElem? (i := 942) (by decide +kernel), List.mem_of_getElem? (i := 1293) (by decide +kernel), List.mem_of_getElem? (i := 1294) (by decide +kernel)⟩
theorem lw_p60 : lw_okq (⟨"VoiceHeapsModel", "heapOfRow", "(I)I"⟩, 45) := ⟨⟨by decide +kernel, by decide +kernel⟩, List.mem_of_getElem? (i := 942) (by decide +kernel), List.mem_of_getElem? (i := 1301) (by decide +kernel), List.mem_of_getElem? (i := 1302) (by decide +kernel)⟩
theorem lw_p61 : lw_okq (⟨"VoiceHeapsModel", "mostRight", "()I"⟩, 45) := ⟨⟨by decide +kernel, by decide +kernel⟩, List.mem_of_getElem? (i := 942) (by decide +kernel), List.mem_of_getElem? (i := 1325) (by decide +kernel), List.mem_of_getElem? (i := 1326) (by decide +kernel)⟩
def lw_privs_4 : List (MethodName × Nat) := [(⟨"VoiceHeapsModel", "isPiece", "(I)Z"⟩, 45), (⟨"VoiceHeapsModel", "likeOf", "(II)I"⟩, 45), (⟨"VoiceHeapsModel", "findBest", "()Z"⟩, 45), (⟨"VoiceHeapsModel", "findGains", "()V"⟩, 45), (⟨"VoiceHeapsModel", "touch", "(II)Z"⟩, 45), (⟨"VoiceHeapsModel", "begin", "()V"⟩, 45), (⟨"VoiceHeapsModel", "worthOf", "([I)I"⟩, 45), (⟨"VoiceHeapsModel", "goOn", "()Z"⟩, 45), (⟨"VoiceHeapsModel", "join", "()V"⟩, 45), (⟨"VoiceHeapsModel", "wrong", "(I)I"⟩, 45), (⟨"VoiceHeapsModel", "findHeapMiddles", "()V"⟩, 45), (⟨"VoiceHeapsModel", "offsOf", "(II)I"⟩, 45), (⟨"VoiceHeapsModel", "heapOfRow", "(I)I"⟩, 45), (⟨"VoiceHeapsModel", "mostRight", "()I"⟩, 45)]
theorem lw_r4 : ∀ q ∈ lw_privs_4, lw_okq q := List.forall_mem_cons.mpr ⟨lw_p48, List.forall_mem_cons.mpr ⟨lw_p49, List.forall_mem_cons.mpr ⟨lw_p50, List.forall_mem_cons.mpr ⟨lw_p51, List.forall_mem_cons.mpr ⟨lw_p52, List.forall_mem_cons.mpr ⟨lw_p53, List.forall_mem_cons.mpr ⟨lw_p54, List.forall_mem_cons.mpr ⟨lw_p55, List.forall_mem_cons.mpr ⟨lw_p56, List.forall_mem_cons.mpr ⟨lw_p57, List.forall_mem_cons.mpr ⟨lw_p58, List.forall_mem_cons.mpr ⟨lw_p59, List.forall_mem_cons.mpr ⟨lw_p60, List.forall_mem_cons.mpr ⟨lw_p61, fun _ h => absurd h List.not_mem_nil⟩⟩⟩⟩⟩⟩⟩⟩⟩⟩⟩⟩⟩⟩
def lw_privs : List (MethodName × Nat) := lw_privs_1 ++ (lw_privs_2 ++ (lw_privs_3 ++ (lw_privs_4)))
def lw_tbl : List Cond := k2_sels lw_privs ++ tables_1
theorem lw_privs_ok : ∀ q ∈ lw_privs, lw_okq q := by
  show ∀ q ∈ lw_privs_1 ++ (lw_privs_2 ++ (lw_privs_3 ++ (lw_privs_4))), lw_okq q
  exact List.forall_mem_append.mpr ⟨lw_r1, List.forall_mem_append.mpr ⟨lw_r2, List.forall_mem_append.mpr ⟨lw_r3, lw_r4⟩⟩⟩
-- ===== end of PART A; then your names; then what follows =====
end
section
/-! ===== BEGIN words of one list among another's, by their places ===== -/
theorem goodIn_r {big : List Cond} (ws : List Cond) (ps : List Nat) (hp : ws = ps.filterMap (fun i => big[i]?)) (h : ws.all goodWord = true) : GoodIn big ws := by
  intro w hw
  have h1 := List.all_eq_true.mp h w hw
  rw [hp] at hw
  obtain ⟨i, -, hi⟩ := List.mem_filterMap.mp hw
  have hm : w ∈ big := by first | exact List.mem_of_getElem? hi | exact List.getElem?_mem hi
  exact ⟨hm, good_of_word h1⟩
theorem goodIn_app {big a b : List Cond} (ha : GoodIn big a) (hb : GoodIn big b) : GoodIn big (a ++ b) := fun w h => (List.mem_append.mp h).elim (ha w) (hb w)
theorem goodIn_ca {big a b : List Cond} {c : Cond} (ha : GoodIn big (c :: a)) (hb : GoodIn big b) : GoodIn big (c :: (a ++ b)) := fun w h => (List.mem_cons.mp h).elim (fun e => ha w (List.mem_cons.mpr (Or.inl e))) (fun h => (List.mem_append.mp h).elim (fun h => ha w (List.mem_cons.mpr (Or.inr h))) (hb w))
theorem goodIn_sub {big ws : List Cond} (hm : ∀ w ∈ ws, w ∈ big) (h : ws.all goodWord = true) : GoodIn big ws := fun w hw => ⟨hm w hw, good_of_word (List.all_eq_true.mp h w hw)⟩
/-! ===== END ===== -/

/-! ===== BEGIN printed: names, fields, word lists, decode rows ===== -/
def RX0 : String := "VoiceHeaps$AllHeapings"
def TX0 : u_T := fun k => match k with
  | 0 => ("VoiceHeaps$AllHeapings", "best", "LVoiceHeaps$Heaping;", true)
  | 1 => ("VoiceHeaps$AllHeapings", "heapOf", "[I", true)
  | 2 => ("VoiceHeaps$AllHeapings", "members", "[I", true)
  | 3 => ("VoiceHeaps$AllHeapings", "isForNear", "Z", false)
  | 4 => ("VoiceHeaps$AllHeapings", "least", "I", false)
  | 5 => ("VoiceHeaps$AllHeapings", "nearOnes", "I", false)
  | 6 => ("VoiceHeaps$AllHeapings", "fewest", "I", false)
  | 7 => ("VoiceHeaps$AllHeapings", "most", "I", false)
  | 8 => ("VoiceHeaps$AllHeapings", "always", "J", false)
  | _ => ("VoiceHeaps$AllHeapings", "ever", "J", false)
def tyX0 : Nat → FieldType := fun k => match k with
  | 0 => .object "VoiceHeaps$Heaping"
  | 1 => .array .int
  | 2 => .array .int
  | 3 => .boolean
  | 4 => .int
  | 5 => .int
  | 6 => .int
  | 7 => .int
  | 8 => .long
  | _ => .long
abbrev wsX00 : List Cond := u_ws RX0 TX0 10
theorem nmX0 : ∀ a, a < 10 → ∀ b, b < 10 → a ≠ b → (TX0 a).2.1 ≠ (TX0 b).2.1 := by decide +kernel
theorem tyX0_ok : ∀ k, k < 10 → parseFieldDescriptor (TX0 k).2.2.1 = some (tyX0 k) := by decide +kernel
abbrev cX0_init : ByteArray := prog_2_method_1_code
def yX0_init : MethodName := ⟨RX0, "<init>", "()V"⟩
abbrev cX0_findBest : ByteArray := prog_2_method_2_code
def yX0_findBest : MethodName := ⟨RX0, "findBest", "(LVoiceHeaps$Bonds;)V"⟩
abbrev cX0_findNear : ByteArray := prog_2_method_3_code
def yX0_findNear : MethodName := ⟨RX0, "findNear", "(LVoiceHeaps$Bonds;I)V"⟩
abbrev cX0_deal : ByteArray := prog_2_method_4_code
def yX0_deal : MethodName := ⟨RX0, "deal", "(LVoiceHeaps$AllHeapings;LVoiceHeaps$Bonds;IIIJ)V"⟩
abbrev cX0_meet : ByteArray := prog_2_method_5_code
def yX0_meet : MethodName := ⟨RX0, "meet", "(IIIJ)V"⟩
abbrev cX0_meetNear : ByteArray := prog_2_method_6_code
def yX0_meetNear : MethodName := ⟨RX0, "meetNear", "(IIJ)V"⟩
abbrev cX0_placeOfPairs : ByteArray := prog_2_method_7_code
def yX0_placeOfPairs : MethodName := ⟨RX0, "placeOfPairs", "(I)I"⟩
abbrev cX0_sureness : ByteArray := prog_2_method_8_code
def yX0_sureness : MethodName := ⟨RX0, "sureness", "(II)I"⟩
def RX1 : String := "VoiceHeaps$Bonds"
def TX1 : u_T := fun k => match k with
  | 0 => ("VoiceHeaps$Bonds", "bond", "[[I", true)
  | 1 => ("VoiceHeaps$Bonds", "link", "[[I", true)
  | 2 => ("VoiceHeaps$Bonds", "gain", "[I", true)
  | _ => ("VoiceHeaps$Bonds", "pieces", "I", false)
def tyX1 : Nat → FieldType := fun k => match k with
  | 0 => .array (.array .int)
  | 1 => .array (.array .int)
  | 2 => .array .int
  | _ => .int
abbrev wsX10 : List Cond := u_ws RX1 TX1 4
theorem nmX1 : ∀ a, a < 4 → ∀ b, b < 4 → a ≠ b → (TX1 a).2.1 ≠ (TX1 b).2.1 := by decide +kernel
theorem tyX1_ok : ∀ k, k < 4 → parseFieldDescriptor (TX1 k).2.2.1 = some (tyX1 k) := by decide +kernel
abbrev cX1_init : ByteArray := prog_3_method_1_code
def yX1_init : MethodName := ⟨RX1, "<init>", "()V"⟩
abbrev cX1_tie : ByteArray := prog_3_method_2_code
def yX1_tie : MethodName := ⟨RX1, "tie", "(LVoiceHeaps$Cutting;II)V"⟩
abbrev cX1_fillGains : ByteArray := prog_3_method_3_code
def yX1_fillGains : MethodName := ⟨RX1, "fillGains", "(I)V"⟩
abbrev cX1_gainOf : ByteArray := prog_3_method_4_code
def yX1_gainOf : MethodName := ⟨RX1, "gainOf", "(II)I"⟩
abbrev cX1_join : ByteArray := prog_3_method_5_code
def yX1_join : MethodName := ⟨RX1, "join", "(LVoiceHeaps$Heaping;)V"⟩
abbrev cX1_joinTwo : ByteArray := prog_3_method_6_code
def yX1_joinTwo : MethodName := ⟨RX1, "joinTwo", "(LVoiceHeaps$Heaping;)Z"⟩
abbrev cX1_worthOf : ByteArray := prog_3_method_7_code
def yX1_worthOf : MethodName := ⟨RX1, "worthOf", "(LVoiceHeaps$Heaping;)I"⟩
def RX2 : String := "VoiceHeaps$Cutting"
def TX2 : u_T := fun k => match k with
  | 0 => ("VoiceHeaps$Cutting", "first", "[I", true)
  | 1 => ("VoiceHeaps$Cutting", "size", "[I", true)
  | 2 => ("VoiceHeaps$Cutting", "spread", "[I", true)
  | 3 => ("VoiceHeaps$Cutting", "middles", "[I", true)
  | 4 => ("VoiceHeaps$Cutting", "stretchOf", "[I", true)
  | 5 => ("VoiceHeaps$Cutting", "pieceOf", "[I", true)
  | 6 => ("VoiceHeaps$Cutting", "cost", "[I", true)
  | 7 => ("VoiceHeaps$Cutting", "most", "[I", true)
  | 8 => ("VoiceHeaps$Cutting", "pieces", "I", false)
  | 9 => ("VoiceHeaps$Cutting", "stretches", "I", false)
  | 10 => ("VoiceHeaps$Cutting", "total", "I", false)
  | _ => ("VoiceHeaps$Cutting", "heardRows", "I", false)
def tyX2 : Nat → FieldType := fun k => match k with
  | 0 => .array .int
  | 1 => .array .int
  | 2 => .array .int
  | 3 => .array .int
  | 4 => .array .int
  | 5 => .array .int
  | 6 => .array .int
  | 7 => .array .int
  | 8 => .int
  | 9 => .int
  | 10 => .int
  | _ => .int
abbrev wsX20 : List Cond := u_ws RX2 TX2 12
theorem nmX2 : ∀ a, a < 12 → ∀ b, b < 12 → a ≠ b → (TX2 a).2.1 ≠ (TX2 b).2.1 := by decide +kernel
theorem tyX2_ok : ∀ k, k < 12 → parseFieldDescriptor (TX2 k).2.2.1 = some (tyX2 k) := by decide +kernel
abbrev cX2_init : ByteArray := prog_4_method_1_code
def yX2_init : MethodName := ⟨RX2, "<init>", "()V"⟩
abbrev cX2_cut : ByteArray := prog_4_method_2_code
def yX2_cut : MethodName := ⟨RX2, "cut", "(LVoiceHeaps$RowBook;LVoiceHeaps$Gathering;II)V"⟩
abbrev cX2_findCosts : ByteArray := prog_4_method_3_code
def yX2_findCosts : MethodName := ⟨RX2, "findCosts", "(LVoiceHeaps$RowBook;LVoiceHeaps$Gathering;III)V"⟩
abbrev cX2_addPieces : ByteArray := prog_4_method_4_code
def yX2_addPieces : MethodName := ⟨RX2, "addPieces", "(LVoiceHeaps$RowBook;LVoiceHeaps$Gathering;II)V"⟩
abbrev cX2_middleOf : ByteArray := prog_4_method_5_code
def yX2_middleOf : MethodName := ⟨RX2, "middleOf", "(II)I"⟩
abbrev cX2_likeness : ByteArray := prog_4_method_6_code
def yX2_likeness : MethodName := ⟨RX2, "likeness", "(III)I"⟩
abbrev cX2_doTouch : ByteArray := prog_4_method_7_code
def yX2_doTouch : MethodName := ⟨RX2, "doTouch", "(II)Z"⟩
def RX3 : String := "VoiceHeaps$Gathering"
def TX3 : u_T := fun k => match k with
  | 0 => ("VoiceHeaps$Gathering", "sorted", "[[I", true)
  | 1 => ("VoiceHeaps$Gathering", "rows", "I", false)
  | _ => ("VoiceHeaps$Gathering", "spread", "I", false)
def tyX3 : Nat → FieldType := fun k => match k with
  | 0 => .array (.array .int)
  | 1 => .int
  | _ => .int
abbrev wsX30 : List Cond := u_ws RX3 TX3 3
theorem nmX3 : ∀ a, a < 3 → ∀ b, b < 3 → a ≠ b → (TX3 a).2.1 ≠ (TX3 b).2.1 := by decide +kernel
theorem tyX3_ok : ∀ k, k < 3 → parseFieldDescriptor (TX3 k).2.2.1 = some (tyX3 k) := by decide +kernel
abbrev cX3_init : ByteArray := prog_5_method_1_code
def yX3_init : MethodName := ⟨RX3, "<init>", "()V"⟩
abbrev cX3_empty : ByteArray := prog_5_method_2_code
def yX3_empty : MethodName := ⟨RX3, "empty", "()V"⟩
abbrev cX3_take : ByteArray := prog_5_method_3_code
def yX3_take : MethodName := ⟨RX3, "take", "(LVoiceHeaps$RowBook;I)V"⟩
abbrev cX3_writeMiddle : ByteArray := prog_5_method_4_code
def yX3_writeMiddle : MethodName := ⟨RX3, "writeMiddle", "([II)V"⟩
def RX4 : String := "VoiceHeaps$Heaping"
def TX4 : u_T := fun k => match k with
  | 0 => ("VoiceHeaps$Heaping", "heapOf", "[I", true)
  | 1 => ("VoiceHeaps$Heaping", "renamed", "[I", true)
  | 2 => ("VoiceHeaps$Heaping", "middles", "[I", true)
  | 3 => ("VoiceHeaps$Heaping", "heaps", "I", false)
  | _ => ("VoiceHeaps$Heaping", "value", "I", false)
def tyX4 : Nat → FieldType := fun k => match k with
  | 0 => .array .int
  | 1 => .array .int
  | 2 => .array .int
  | 3 => .int
  | _ => .int
abbrev wsX40 : List Cond := u_ws RX4 TX4 5
theorem nmX4 : ∀ a, a < 5 → ∀ b, b < 5 → a ≠ b → (TX4 a).2.1 ≠ (TX4 b).2.1 := by decide +kernel
theorem tyX4_ok : ∀ k, k < 5 → parseFieldDescriptor (TX4 k).2.2.1 = some (tyX4 k) := by decide +kernel
abbrev cX4_init : ByteArray := prog_6_method_1_code
def yX4_init : MethodName := ⟨RX4, "<init>", "()V"⟩
abbrev cX4_numberHeaps : ByteArray := prog_6_method_2_code
def yX4_numberHeaps : MethodName := ⟨RX4, "numberHeaps", "(I)V"⟩
abbrev cX4_findMiddles : ByteArray := prog_6_method_3_code
def yX4_findMiddles : MethodName := ⟨RX4, "findMiddles", "(LVoiceHeaps$RowBook;LVoiceHeaps$Gathering;LVoiceHeaps$Cutting;)V"⟩
abbrev cX4_middleOf : ByteArray := prog_6_method_4_code
def yX4_middleOf : MethodName := ⟨RX4, "middleOf", "(II)I"⟩
abbrev cX4_membersOf : ByteArray := prog_6_method_5_code
def yX4_membersOf : MethodName := ⟨RX4, "membersOf", "(II)I"⟩
abbrev cX4_twoInOne : ByteArray := prog_6_method_6_code
def yX4_twoInOne : MethodName := ⟨RX4, "twoInOne", "(LVoiceHeaps$Cutting;II)I"⟩
abbrev cX4_offOfTwo : ByteArray := prog_6_method_7_code
def yX4_offOfTwo : MethodName := ⟨RX4, "offOfTwo", "(LVoiceHeaps$Cutting;III)I"⟩
def RX5 : String := "VoiceHeaps$KeptVoices"
def TX5 : u_T := fun k => match k with
  | 0 => ("VoiceHeaps$KeptVoices", "names", "[I", true)
  | 1 => ("VoiceHeaps$KeptVoices", "middles", "[I", true)
  | 2 => ("VoiceHeaps$KeptVoices", "offs", "[I", true)
  | _ => ("VoiceHeaps$KeptVoices", "voices", "I", false)
def tyX5 : Nat → FieldType := fun k => match k with
  | 0 => .array .int
  | 1 => .array .int
  | 2 => .array .int
  | _ => .int
abbrev wsX50 : List Cond := u_ws RX5 TX5 4
theorem nmX5 : ∀ a, a < 4 → ∀ b, b < 4 → a ≠ b → (TX5 a).2.1 ≠ (TX5 b).2.1 := by decide +kernel
theorem tyX5_ok : ∀ k, k < 4 → parseFieldDescriptor (TX5 k).2.2.1 = some (tyX5 k) := by decide +kernel
abbrev cX5_init : ByteArray := prog_7_method_1_code
def yX5_init : MethodName := ⟨RX5, "<init>", "()V"⟩
abbrev cX5_has : ByteArray := prog_7_method_2_code
def yX5_has : MethodName := ⟨RX5, "has", "(I)Z"⟩
abbrev cX5_add : ByteArray := prog_7_method_3_code
def yX5_add : MethodName := ⟨RX5, "add", "(LVoiceHeaps$Heaping;II)I"⟩
abbrev cX5_remove : ByteArray := prog_7_method_4_code
def yX5_remove : MethodName := ⟨RX5, "remove", "(I)I"⟩
abbrev cX5_nearestTo : ByteArray := prog_7_method_5_code
def yX5_nearestTo : MethodName := ⟨RX5, "nearestTo", "(LVoiceHeaps$Heaping;II)I"⟩
abbrev cX5_dealsOf : ByteArray := prog_7_method_6_code
def yX5_dealsOf : MethodName := ⟨RX5, "dealsOf", "(LVoiceHeaps$Cutting;IIZ)I"⟩
abbrev cX5_fillOffs : ByteArray := prog_7_method_7_code
def yX5_fillOffs : MethodName := ⟨RX5, "fillOffs", "(LVoiceHeaps$Cutting;II)V"⟩
def RX6 : String := "VoiceHeaps$Kinds"
def TX6 : u_T := fun k => match k with
  | _ => ("VoiceHeaps$Kinds", "asked", "J", false)
def tyX6 : Nat → FieldType := fun k => match k with
  | _ => .long
abbrev wsX60 : List Cond := u_ws RX6 TX6 1
theorem nmX6 : ∀ a, a < 1 → ∀ b, b < 1 → a ≠ b → (TX6 a).2.1 ≠ (TX6 b).2.1 := by decide +kernel
theorem tyX6_ok : ∀ k, k < 1 → parseFieldDescriptor (TX6 k).2.2.1 = some (tyX6 k) := by decide +kernel
abbrev cX6_init : ByteArray := prog_8_method_1_code
def yX6_init : MethodName := ⟨RX6, "<init>", "()V"⟩
abbrev cX6_weigh : ByteArray := prog_8_method_2_code
def yX6_weigh : MethodName := ⟨RX6, "weigh", "(ILVoiceHeaps$Cutting;II)I"⟩
abbrev cX6_span : ByteArray := prog_8_method_3_code
def yX6_span : MethodName := ⟨RX6, "span", "(LVoiceHeaps$Cutting;I)I"⟩
abbrev cX6_voice : ByteArray := prog_8_method_4_code
def yX6_voice : MethodName := ⟨RX6, "voice", "(LVoiceHeaps$Cutting;I)I"⟩
abbrev cX6_talk : ByteArray := prog_8_method_5_code
def yX6_talk : MethodName := ⟨RX6, "talk", "(LVoiceHeaps$Cutting;I)I"⟩
abbrev cX6_two : ByteArray := prog_8_method_6_code
def yX6_two : MethodName := ⟨RX6, "two", "(LVoiceHeaps$Cutting;I)I"⟩
abbrev cX6_brief : ByteArray := prog_8_method_7_code
def yX6_brief : MethodName := ⟨RX6, "brief", "(LVoiceHeaps$Cutting;I)I"⟩
abbrev cX6_far : ByteArray := prog_8_method_8_code
def yX6_far : MethodName := ⟨RX6, "far", "(LVoiceHeaps$Cutting;I)I"⟩
abbrev cX6_known : ByteArray := prog_8_method_9_code
def yX6_known : MethodName := ⟨RX6, "known", "(LVoiceHeaps$Cutting;II)I"⟩
abbrev cX6_noise : ByteArray := prog_8_method_10_code
def yX6_noise : MethodName := ⟨RX6, "noise", "(LVoiceHeaps$Cutting;I)I"⟩
def RX7 : String := "VoiceHeaps$RowBook"
def TX7 : u_T := fun k => match k with
  | 0 => ("VoiceHeaps$RowBook", "numbers", "[I", true)
  | 1 => ("VoiceHeaps$RowBook", "isDeaf", "[Z", true)
  | 2 => ("VoiceHeaps$RowBook", "isOut", "[Z", true)
  | 3 => ("VoiceHeaps$RowBook", "truthOf", "[I", true)
  | _ => ("VoiceHeaps$RowBook", "rows", "I", false)
def tyX7 : Nat → FieldType := fun k => match k with
  | 0 => .array .int
  | 1 => .array .boolean
  | 2 => .array .boolean
  | 3 => .array .int
  | _ => .int
abbrev wsX70 : List Cond := u_ws RX7 TX7 5
theorem nmX7 : ∀ a, a < 5 → ∀ b, b < 5 → a ≠ b → (TX7 a).2.1 ≠ (TX7 b).2.1 := by decide +kernel
theorem tyX7_ok : ∀ k, k < 5 → parseFieldDescriptor (TX7 k).2.2.1 = some (tyX7 k) := by decide +kernel
abbrev cX7_init : ByteArray := prog_9_method_1_code
def yX7_init : MethodName := ⟨RX7, "<init>", "()V"⟩
abbrev cX7_addRow : ByteArray := prog_9_method_2_code
def yX7_addRow : MethodName := ⟨RX7, "addRow", "(IIII)I"⟩
abbrev cX7_addDeaf : ByteArray := prog_9_method_3_code
def yX7_addDeaf : MethodName := ⟨RX7, "addDeaf", "()I"⟩
abbrev cX7_setOut : ByteArray := prog_9_method_4_code
def yX7_setOut : MethodName := ⟨RX7, "setOut", "(IIZ)I"⟩
abbrev cX7_setTruth : ByteArray := prog_9_method_5_code
def yX7_setTruth : MethodName := ⟨RX7, "setTruth", "(III)I"⟩
abbrev cX7_isHeard : ByteArray := prog_9_method_6_code
def yX7_isHeard : MethodName := ⟨RX7, "isHeard", "(II)Z"⟩
abbrev cX7_deafRows : ByteArray := prog_9_method_7_code
def yX7_deafRows : MethodName := ⟨RX7, "deafRows", "()I"⟩
abbrev cX7_outRows : ByteArray := prog_9_method_8_code
def yX7_outRows : MethodName := ⟨RX7, "outRows", "()I"⟩
def RX8 : String := "VoiceHeaps$RuleText"
def TX8 : u_T := fun k => match k with
  | 0 => ("VoiceHeaps$RuleText", "bytes", "[I", true)
  | 1 => ("VoiceHeaps$RuleText", "now", "[I", true)
  | 2 => ("VoiceHeaps$RuleText", "told", "[I", true)
  | 3 => ("VoiceHeaps$RuleText", "length", "I", false)
  | _ => ("VoiceHeaps$RuleText", "at", "I", false)
def tyX8 : Nat → FieldType := fun k => match k with
  | 0 => .array .int
  | 1 => .array .int
  | 2 => .array .int
  | 3 => .int
  | _ => .int
abbrev wsX80 : List Cond := u_ws RX8 TX8 5
theorem nmX8 : ∀ a, a < 5 → ∀ b, b < 5 → a ≠ b → (TX8 a).2.1 ≠ (TX8 b).2.1 := by decide +kernel
theorem tyX8_ok : ∀ k, k < 5 → parseFieldDescriptor (TX8 k).2.2.1 = some (tyX8 k) := by decide +kernel
abbrev cX8_init : ByteArray := prog_10_method_1_code
def yX8_init : MethodName := ⟨RX8, "<init>", "()V"⟩
abbrev cX8_ruleNow : ByteArray := prog_10_method_2_code
def yX8_ruleNow : MethodName := ⟨RX8, "ruleNow", "(I)I"⟩
abbrev cX8_append : ByteArray := prog_10_method_3_code
def yX8_append : MethodName := ⟨RX8, "append", "(JI)Z"⟩
abbrev cX8_read : ByteArray := prog_10_method_4_code
def yX8_read : MethodName := ⟨RX8, "read", "()I"⟩
abbrev cX8_adopt : ByteArray := prog_10_method_5_code
def yX8_adopt : MethodName := ⟨RX8, "adopt", "()V"⟩
abbrev cX8_endsBehindBlanks : ByteArray := prog_10_method_6_code
def yX8_endsBehindBlanks : MethodName := ⟨RX8, "endsBehindBlanks", "()Z"⟩
abbrev cX8_readItem : ByteArray := prog_10_method_7_code
def yX8_readItem : MethodName := ⟨RX8, "readItem", "()I"⟩
abbrev cX8_readWord : ByteArray := prog_10_method_8_code
def yX8_readWord : MethodName := ⟨RX8, "readWord", "()I"⟩
abbrev cX8_readNumber : ByteArray := prog_10_method_9_code
def yX8_readNumber : MethodName := ⟨RX8, "readNumber", "()I"⟩
abbrev cX8_isWord : ByteArray := prog_10_method_10_code
def yX8_isWord : MethodName := ⟨RX8, "isWord", "(Ljava/lang/String;II)Z"⟩
abbrev cX8_isLetter : ByteArray := prog_10_method_11_code
def yX8_isLetter : MethodName := ⟨RX8, "isLetter", "(I)Z"⟩
abbrev cX8_isDigit : ByteArray := prog_10_method_12_code
def yX8_isDigit : MethodName := ⟨RX8, "isDigit", "(I)Z"⟩
abbrev cX8_wordOf : ByteArray := prog_10_method_13_code
def yX8_wordOf : MethodName := ⟨RX8, "wordOf", "(I)Ljava/lang/String;"⟩
def RX9 : String := "VoiceHeaps$Verdict"
def TX9 : u_T := fun k => match k with
  | 0 => ("VoiceHeaps$Verdict", "together", "[[I", true)
  | _ => ("VoiceHeaps$Verdict", "right", "[I", true)
def tyX9 : Nat → FieldType := fun k => match k with
  | 0 => .array (.array .int)
  | _ => .array .int
abbrev wsX90 : List Cond := u_ws RX9 TX9 2
theorem nmX9 : ∀ a, a < 2 → ∀ b, b < 2 → a ≠ b → (TX9 a).2.1 ≠ (TX9 b).2.1 := by decide +kernel
theorem tyX9_ok : ∀ k, k < 2 → parseFieldDescriptor (TX9 k).2.2.1 = some (tyX9 k) := by decide +kernel
abbrev cX9_init : ByteArray := prog_11_method_1_code
def yX9_init : MethodName := ⟨RX9, "<init>", "()V"⟩
abbrev cX9_missed : ByteArray := prog_11_method_2_code
def yX9_missed : MethodName := ⟨RX9, "missed", "(LVoiceHeaps$RowBook;LVoiceHeaps$Cutting;)I"⟩
abbrev cX9_madeUp : ByteArray := prog_11_method_3_code
def yX9_madeUp : MethodName := ⟨RX9, "madeUp", "(LVoiceHeaps$RowBook;LVoiceHeaps$Cutting;)I"⟩
abbrev cX9_wrong : ByteArray := prog_11_method_4_code
def yX9_wrong : MethodName := ⟨RX9, "wrong", "(LVoiceHeaps$RowBook;LVoiceHeaps$Cutting;LVoiceHeaps$Heaping;)I"⟩
abbrev cX9_giveOne : ByteArray := prog_11_method_5_code
def yX9_giveOne : MethodName := ⟨RX9, "giveOne", "(I[I)V"⟩
abbrev cX9_countTogether : ByteArray := prog_11_method_6_code
def yX9_countTogether : MethodName := ⟨RX9, "countTogether", "(LVoiceHeaps$RowBook;LVoiceHeaps$Cutting;LVoiceHeaps$Heaping;)I"⟩
def RX10 : String := "VoiceHeaps$WordBook"
def TX10 : u_T := fun k => match k with
  | 0 => ("VoiceHeaps$WordBook", "from", "[I", true)
  | 1 => ("VoiceHeaps$WordBook", "to", "[I", true)
  | _ => ("VoiceHeaps$WordBook", "words", "I", false)
def tyX10 : Nat → FieldType := fun k => match k with
  | 0 => .array .int
  | 1 => .array .int
  | _ => .int
abbrev wsX100 : List Cond := u_ws RX10 TX10 3
theorem nmX10 : ∀ a, a < 3 → ∀ b, b < 3 → a ≠ b → (TX10 a).2.1 ≠ (TX10 b).2.1 := by decide +kernel
theorem tyX10_ok : ∀ k, k < 3 → parseFieldDescriptor (TX10 k).2.2.1 = some (tyX10 k) := by decide +kernel
abbrev cX10_init : ByteArray := prog_12_method_1_code
def yX10_init : MethodName := ⟨RX10, "<init>", "()V"⟩
abbrev cX10_add : ByteArray := prog_12_method_2_code
def yX10_add : MethodName := ⟨RX10, "add", "(II)I"⟩
abbrev cX10_pieceWithMost : ByteArray := prog_12_method_3_code
def yX10_pieceWithMost : MethodName := ⟨RX10, "pieceWithMost", "(LVoiceHeaps$Cutting;I)I"⟩
abbrev cX10_piecesWithSome : ByteArray := prog_12_method_4_code
def yX10_piecesWithSome : MethodName := ⟨RX10, "piecesWithSome", "(LVoiceHeaps$Cutting;I)I"⟩
abbrev cX10_sharedRows : ByteArray := prog_12_method_5_code
def yX10_sharedRows : MethodName := ⟨RX10, "sharedRows", "(LVoiceHeaps$Cutting;II)I"⟩
def RX11 : String := "VoiceHeaps"
def TX11 : u_T := fun k => match k with
  | 0 => ("VoiceHeaps", "ruleText", "LVoiceHeaps$RuleText;", true)
  | 1 => ("VoiceHeaps", "book", "LVoiceHeaps$RowBook;", true)
  | 2 => ("VoiceHeaps", "gathering", "LVoiceHeaps$Gathering;", true)
  | 3 => ("VoiceHeaps", "cutting", "LVoiceHeaps$Cutting;", true)
  | 4 => ("VoiceHeaps", "bonds", "LVoiceHeaps$Bonds;", true)
  | 5 => ("VoiceHeaps", "all", "LVoiceHeaps$AllHeapings;", true)
  | 6 => ("VoiceHeaps", "joined", "LVoiceHeaps$Heaping;", true)
  | 7 => ("VoiceHeaps", "kept", "LVoiceHeaps$KeptVoices;", true)
  | 8 => ("VoiceHeaps", "wordBook", "LVoiceHeaps$WordBook;", true)
  | 9 => ("VoiceHeaps", "verdict", "LVoiceHeaps$Verdict;", true)
  | 10 => ("VoiceHeaps", "kinds", "LVoiceHeaps$Kinds;", true)
  | 11 => ("VoiceHeaps", "shownHeap", "[I", true)
  | 12 => ("VoiceHeaps", "shownRows", "I", false)
  | 13 => ("VoiceHeaps", "cutIsOld", "Z", false)
  | 14 => ("VoiceHeaps", "heapsAreOld", "Z", false)
  | _ => ("VoiceHeaps", "nearIsOld", "Z", false)
def tyX11 : Nat → FieldType := fun k => match k with
  | 0 => .object "VoiceHeaps$RuleText"
  | 1 => .object "VoiceHeaps$RowBook"
  | 2 => .object "VoiceHeaps$Gathering"
  | 3 => .object "VoiceHeaps$Cutting"
  | 4 => .object "VoiceHeaps$Bonds"
  | 5 => .object "VoiceHeaps$AllHeapings"
  | 6 => .object "VoiceHeaps$Heaping"
  | 7 => .object "VoiceHeaps$KeptVoices"
  | 8 => .object "VoiceHeaps$WordBook"
  | 9 => .object "VoiceHeaps$Verdict"
  | 10 => .object "VoiceHeaps$Kinds"
  | 11 => .array .int
  | 12 => .int
  | 13 => .boolean
  | 14 => .boolean
  | _ => .boolean
abbrev wsX110 : List Cond := u_ws RX11 TX11 16
theorem nmX11 : ∀ a, a < 16 → ∀ b, b < 16 → a ≠ b → (TX11 a).2.1 ≠ (TX11 b).2.1 := by decide +kernel
theorem tyX11_ok : ∀ k, k < 16 → parseFieldDescriptor (TX11 k).2.2.1 = some (tyX11 k) := by decide +kernel
abbrev cX11_init : ByteArray := prog_1_method_1_code
def yX11_init : MethodName := ⟨RX11, "<init>", "()V"⟩
abbrev cX11_type : ByteArray := prog_1_method_2_code
def yX11_type : MethodName := ⟨RX11, "type", "(JI)I"⟩
abbrev cX11_clear : ByteArray := prog_1_method_3_code
def yX11_clear : MethodName := ⟨RX11, "clear", "()I"⟩
abbrev cX11_rules : ByteArray := prog_1_method_4_code
def yX11_rules : MethodName := ⟨RX11, "rules", "()I"⟩
abbrev cX11_rule : ByteArray := prog_1_method_5_code
def yX11_rule : MethodName := ⟨RX11, "rule", "(I)I"⟩
abbrev cX11_row : ByteArray := prog_1_method_6_code
def yX11_row : MethodName := ⟨RX11, "row", "(IIII)I"⟩
abbrev cX11_deaf : ByteArray := prog_1_method_7_code
def yX11_deaf : MethodName := ⟨RX11, "deaf", "(I)I"⟩
abbrev cX11_out : ByteArray := prog_1_method_8_code
def yX11_out : MethodName := ⟨RX11, "out", "(III)I"⟩
abbrev cX11_hush : ByteArray := prog_1_method_9_code
def yX11_hush : MethodName := ⟨RX11, "hush", "()I"⟩
abbrev cX11_pieces : ByteArray := prog_1_method_10_code
def yX11_pieces : MethodName := ⟨RX11, "pieces", "(I)I"⟩
abbrev cX11_piece : ByteArray := prog_1_method_11_code
def yX11_piece : MethodName := ⟨RX11, "piece", "(II)I"⟩
abbrev cX11_of : ByteArray := prog_1_method_12_code
def yX11_of : MethodName := ⟨RX11, "of", "(I)I"⟩
abbrev cX11_like : ByteArray := prog_1_method_13_code
def yX11_like : MethodName := ⟨RX11, "like", "(II)I"⟩
abbrev cX11_heap : ByteArray := prog_1_method_14_code
def yX11_heap : MethodName := ⟨RX11, "heap", "(II)I"⟩
abbrev cX11_worth : ByteArray := prog_1_method_15_code
def yX11_worth : MethodName := ⟨RX11, "worth", "(I)I"⟩
abbrev cX11_near : ByteArray := prog_1_method_16_code
def yX11_near : MethodName := ⟨RX11, "near", "(I)I"⟩
abbrev cX11_sure : ByteArray := prog_1_method_17_code
def yX11_sure : MethodName := ⟨RX11, "sure", "(II)I"⟩
abbrev cX11_middle : ByteArray := prog_1_method_18_code
def yX11_middle : MethodName := ⟨RX11, "middle", "(II)I"⟩
abbrev cX11_twice : ByteArray := prog_1_method_19_code
def yX11_twice : MethodName := ⟨RX11, "twice", "(II)I"⟩
abbrev cX11_keep : ByteArray := prog_1_method_20_code
def yX11_keep : MethodName := ⟨RX11, "keep", "(II)I"⟩
abbrev cX11_forget : ByteArray := prog_1_method_21_code
def yX11_forget : MethodName := ⟨RX11, "forget", "(I)I"⟩
abbrev cX11_back : ByteArray := prog_1_method_22_code
def yX11_back : MethodName := ⟨RX11, "back", "(II)I"⟩
abbrev cX11_odds : ByteArray := prog_1_method_23_code
def yX11_odds : MethodName := ⟨RX11, "odds", "(III)I"⟩
abbrev cX11_show : ByteArray := prog_1_method_24_code
def yX11_show : MethodName := ⟨RX11, "show", "()I"⟩
abbrev cX11_otherwise : ByteArray := prog_1_method_25_code
def yX11_otherwise : MethodName := ⟨RX11, "otherwise", "()I"⟩
abbrev cX11_word : ByteArray := prog_1_method_26_code
def yX11_word : MethodName := ⟨RX11, "word", "(II)I"⟩
abbrev cX11_hung : ByteArray := prog_1_method_27_code
def yX11_hung : MethodName := ⟨RX11, "hung", "(II)I"⟩
abbrev cX11_truth : ByteArray := prog_1_method_28_code
def yX11_truth : MethodName := ⟨RX11, "truth", "(III)I"⟩
abbrev cX11_errors : ByteArray := prog_1_method_29_code
def yX11_errors : MethodName := ⟨RX11, "errors", "(I)I"⟩
abbrev cX11_weight : ByteArray := prog_1_method_30_code
def yX11_weight : MethodName := ⟨RX11, "weight", "(II)I"⟩
abbrev cX11_count : ByteArray := prog_1_method_31_code
def yX11_count : MethodName := ⟨RX11, "count", "(I)I"⟩
abbrev cX11_trace : ByteArray := prog_1_method_32_code
def yX11_trace : MethodName := ⟨RX11, "trace", "()J"⟩
abbrev cX11_within : ByteArray := prog_1_method_33_code
def yX11_within : MethodName := ⟨RX11, "within", "(III)Z"⟩
abbrev cX11_isLoudness : ByteArray := prog_1_method_34_code
def yX11_isLoudness : MethodName := ⟨RX11, "isLoudness", "(I)Z"⟩
abbrev cX11_isHeapNumber : ByteArray := prog_1_method_35_code
def yX11_isHeapNumber : MethodName := ⟨RX11, "isHeapNumber", "(I)Z"⟩
abbrev cX11_areRows : ByteArray := prog_1_method_36_code
def yX11_areRows : MethodName := ⟨RX11, "areRows", "(II)Z"⟩
abbrev cX11_isPiece : ByteArray := prog_1_method_37_code
def yX11_isPiece : MethodName := ⟨RX11, "isPiece", "(I)Z"⟩
abbrev cX11_refusedHeap : ByteArray := prog_1_method_38_code
def yX11_refusedHeap : MethodName := ⟨RX11, "refusedHeap", "(I)I"⟩
abbrev cX11_byWay : ByteArray := prog_1_method_39_code
def yX11_byWay : MethodName := ⟨RX11, "byWay", "(I)LVoiceHeaps$Heaping;"⟩
abbrev cX11_heapOfRow : ByteArray := prog_1_method_40_code
def yX11_heapOfRow : MethodName := ⟨RX11, "heapOfRow", "(I)I"⟩
abbrev cX11_nothingIsFound : ByteArray := prog_1_method_41_code
def yX11_nothingIsFound : MethodName := ⟨RX11, "nothingIsFound", "()V"⟩
abbrev cX11_cutNow : ByteArray := prog_1_method_42_code
def yX11_cutNow : MethodName := ⟨RX11, "cutNow", "()V"⟩
abbrev cX11_heapNow : ByteArray := prog_1_method_43_code
def yX11_heapNow : MethodName := ⟨RX11, "heapNow", "()Z"⟩
abbrev cX11_nearNow : ByteArray := prog_1_method_44_code
def yX11_nearNow : MethodName := ⟨RX11, "nearNow", "()V"⟩
abbrev cX11_off : ByteArray := prog_1_method_45_code
def yX11_off : MethodName := ⟨RX11, "off", "([II[II)I"⟩
def RX12 : String := "VoiceHeapsModel"
def TX12 : u_T := fun k => match k with
  | 0 => ("VoiceHeapsModel", "trace", "J", false)
  | 1 => ("VoiceHeapsModel", "rule", "[I", true)
  | 2 => ("VoiceHeapsModel", "text", "[B", true)
  | 3 => ("VoiceHeapsModel", "typed", "I", false)
  | 4 => ("VoiceHeapsModel", "at", "I", false)
  | 5 => ("VoiceHeapsModel", "start", "I", false)
  | 6 => ("VoiceHeapsModel", "sort", "I", false)
  | 7 => ("VoiceHeapsModel", "value", "I", false)
  | 8 => ("VoiceHeapsModel", "fault", "I", false)
  | 9 => ("VoiceHeapsModel", "rows", "I", false)
  | 10 => ("VoiceHeapsModel", "number", "[I", true)
  | 11 => ("VoiceHeapsModel", "isDeaf", "[Z", true)
  | 12 => ("VoiceHeapsModel", "isOut", "[Z", true)
  | 13 => ("VoiceHeapsModel", "truth", "[I", true)
  | 14 => ("VoiceHeapsModel", "words", "I", false)
  | 15 => ("VoiceHeapsModel", "wordFrom", "[I", true)
  | 16 => ("VoiceHeapsModel", "wordTo", "[I", true)
  | 17 => ("VoiceHeapsModel", "shown", "I", false)
  | 18 => ("VoiceHeapsModel", "isShown", "Z", false)
  | 19 => ("VoiceHeapsModel", "shownHeap", "[I", true)
  | 20 => ("VoiceHeapsModel", "pieces", "I", false)
  | 21 => ("VoiceHeapsModel", "stretches", "I", false)
  | 22 => ("VoiceHeapsModel", "price", "I", false)
  | 23 => ("VoiceHeapsModel", "first", "[I", true)
  | 24 => ("VoiceHeapsModel", "many", "[I", true)
  | 25 => ("VoiceHeapsModel", "pieceOf", "[I", true)
  | 26 => ("VoiceHeapsModel", "middle", "[I", true)
  | 27 => ("VoiceHeapsModel", "spread", "[I", true)
  | 28 => ("VoiceHeapsModel", "isAsked", "[Z", true)
  | 29 => ("VoiceHeapsModel", "mid", "[I", true)
  | 30 => ("VoiceHeapsModel", "apart", "I", false)
  | 31 => ("VoiceHeapsModel", "line", "[I", true)
  | 32 => ("VoiceHeapsModel", "least", "[I", true)
  | 33 => ("VoiceHeapsModel", "taken", "[I", true)
  | 34 => ("VoiceHeapsModel", "heap", "[I", true)
  | 35 => ("VoiceHeapsModel", "best", "[I", true)
  | 36 => ("VoiceHeapsModel", "joined", "[I", true)
  | 37 => ("VoiceHeapsModel", "bestWorth", "I", false)
  | 38 => ("VoiceHeapsModel", "gain", "[I", true)
  | 39 => ("VoiceHeapsModel", "heapMiddle", "[I", true)
  | 40 => ("VoiceHeapsModel", "kept", "I", false)
  | 41 => ("VoiceHeapsModel", "name", "[I", true)
  | 42 => ("VoiceHeapsModel", "voice", "[I", true)
  | 43 => ("VoiceHeapsModel", "right", "[I", true)
  | _ => ("VoiceHeapsModel", "pairs", "[I", true)
def tyX12 : Nat → FieldType := fun k => match k with
  | 0 => .long
  | 1 => .array .int
  | 2 => .array .byte
  | 3 => .int
  | 4 => .int
  | 5 => .int
  | 6 => .int
  | 7 => .int
  | 8 => .int
  | 9 => .int
  | 10 => .array .int
  | 11 => .array .boolean
  | 12 => .array .boolean
  | 13 => .array .int
  | 14 => .int
  | 15 => .array .int
  | 16 => .array .int
  | 17 => .int
  | 18 => .boolean
  | 19 => .array .int
  | 20 => .int
  | 21 => .int
  | 22 => .int
  | 23 => .array .int
  | 24 => .array .int
  | 25 => .array .int
  | 26 => .array .int
  | 27 => .array .int
  | 28 => .array .boolean
  | 29 => .array .int
  | 30 => .int
  | 31 => .array .int
  | 32 => .array .int
  | 33 => .array .int
  | 34 => .array .int
  | 35 => .array .int
  | 36 => .array .int
  | 37 => .int
  | 38 => .array .int
  | 39 => .array .int
  | 40 => .int
  | 41 => .array .int
  | 42 => .array .int
  | 43 => .array .int
  | _ => .array .int
abbrev wsX120 : List Cond := u_ws RX12 TX12 45
theorem nmX12 : ∀ a, a < 45 → ∀ b, b < 45 → a ≠ b → (TX12 a).2.1 ≠ (TX12 b).2.1 := by decide +kernel
theorem tyX12_ok : ∀ k, k < 45 → parseFieldDescriptor (TX12 k).2.2.1 = some (tyX12 k) := by decide +kernel
abbrev cX12_init : ByteArray := prog_14_method_1_code
def yX12_init : MethodName := ⟨RX12, "<init>", "()V"⟩
abbrev cX12_in : ByteArray := prog_14_method_3_code
def yX12_in : MethodName := ⟨RX12, "in", "(III)Z"⟩
abbrev cX12_atFirst : ByteArray := prog_14_method_4_code
def yX12_atFirst : MethodName := ⟨RX12, "atFirst", "(I)V"⟩
abbrev cX12_most : ByteArray := prog_14_method_5_code
def yX12_most : MethodName := ⟨RX12, "most", "(I)I"⟩
abbrev cX12_type : ByteArray := prog_14_method_6_code
def yX12_type : MethodName := ⟨RX12, "type", "(JI)I"⟩
abbrev cX12_clear : ByteArray := prog_14_method_7_code
def yX12_clear : MethodName := ⟨RX12, "clear", "()I"⟩
abbrev cX12_here : ByteArray := prog_14_method_8_code
def yX12_here : MethodName := ⟨RX12, "here", "()I"⟩
abbrev cX12_more : ByteArray := prog_14_method_9_code
def yX12_more : MethodName := ⟨RX12, "more", "(JI)J"⟩
abbrev cX12_code : ByteArray := prog_14_method_10_code
def yX12_code : MethodName := ⟨RX12, "code", "(IIIII)J"⟩
abbrev cX12_wordOf : ByteArray := prog_14_method_11_code
def yX12_wordOf : MethodName := ⟨RX12, "wordOf", "(II)I"⟩
abbrev cX12_next : ByteArray := prog_14_method_12_code
def yX12_next : MethodName := ⟨RX12, "next", "()V"⟩
abbrev cX12_due : ByteArray := prog_14_method_13_code
def yX12_due : MethodName := ⟨RX12, "due", "(Z)I"⟩
abbrev cX12_rules : ByteArray := prog_14_method_14_code
def yX12_rules : MethodName := ⟨RX12, "rules", "()I"⟩
abbrev cX12_rule : ByteArray := prog_14_method_15_code
def yX12_rule : MethodName := ⟨RX12, "rule", "(I)I"⟩
abbrev cX12_addRow : ByteArray := prog_14_method_16_code
def yX12_addRow : MethodName := ⟨RX12, "addRow", "(IIIIZ)V"⟩
abbrev cX12_row : ByteArray := prog_14_method_17_code
def yX12_row : MethodName := ⟨RX12, "row", "(IIII)I"⟩
abbrev cX12_deaf : ByteArray := prog_14_method_18_code
def yX12_deaf : MethodName := ⟨RX12, "deaf", "(I)I"⟩
abbrev cX12_isRow : ByteArray := prog_14_method_19_code
def yX12_isRow : MethodName := ⟨RX12, "isRow", "(I)Z"⟩
abbrev cX12_areRows : ByteArray := prog_14_method_20_code
def yX12_areRows : MethodName := ⟨RX12, "areRows", "(II)Z"⟩
abbrev cX12_out : ByteArray := prog_14_method_21_code
def yX12_out : MethodName := ⟨RX12, "out", "(III)I"⟩
abbrev cX12_hush : ByteArray := prog_14_method_22_code
def yX12_hush : MethodName := ⟨RX12, "hush", "()I"⟩
abbrev cX12_isHeard : ByteArray := prog_14_method_23_code
def yX12_isHeard : MethodName := ⟨RX12, "isHeard", "(I)Z"⟩
abbrev cX12_findMiddle : ByteArray := prog_14_method_24_code
def yX12_findMiddle : MethodName := ⟨RX12, "findMiddle", "()V"⟩
abbrev cX12_askRows : ByteArray := prog_14_method_25_code
def yX12_askRows : MethodName := ⟨RX12, "askRows", "(II)V"⟩
abbrev cX12_cut : ByteArray := prog_14_method_26_code
def yX12_cut : MethodName := ⟨RX12, "cut", "(II)V"⟩
abbrev cX12_findPieces : ByteArray := prog_14_method_27_code
def yX12_findPieces : MethodName := ⟨RX12, "findPieces", "()V"⟩
abbrev cX12_pieces : ByteArray := prog_14_method_28_code
def yX12_pieces : MethodName := ⟨RX12, "pieces", "(I)I"⟩
abbrev cX12_isPiece : ByteArray := prog_14_method_29_code
def yX12_isPiece : MethodName := ⟨RX12, "isPiece", "(I)Z"⟩
abbrev cX12_piece : ByteArray := prog_14_method_30_code
def yX12_piece : MethodName := ⟨RX12, "piece", "(II)I"⟩
abbrev cX12_of : ByteArray := prog_14_method_31_code
def yX12_of : MethodName := ⟨RX12, "of", "(I)I"⟩
abbrev cX12_size : ByteArray := prog_14_method_32_code
def yX12_size : MethodName := ⟨RX12, "size", "(I)I"⟩
abbrev cX12_likeOf : ByteArray := prog_14_method_33_code
def yX12_likeOf : MethodName := ⟨RX12, "likeOf", "(II)I"⟩
abbrev cX12_like : ByteArray := prog_14_method_34_code
def yX12_like : MethodName := ⟨RX12, "like", "(II)I"⟩
abbrev cX12_touch : ByteArray := prog_14_method_35_code
def yX12_touch : MethodName := ⟨RX12, "touch", "(II)Z"⟩
abbrev cX12_findGains : ByteArray := prog_14_method_36_code
def yX12_findGains : MethodName := ⟨RX12, "findGains", "()V"⟩
abbrev cX12_worthOf : ByteArray := prog_14_method_37_code
def yX12_worthOf : MethodName := ⟨RX12, "worthOf", "([I)I"⟩
abbrev cX12_heapsIn : ByteArray := prog_14_method_38_code
def yX12_heapsIn : MethodName := ⟨RX12, "heapsIn", "([II)I"⟩
abbrev cX12_goOn : ByteArray := prog_14_method_39_code
def yX12_goOn : MethodName := ⟨RX12, "goOn", "()Z"⟩
abbrev cX12_begin : ByteArray := prog_14_method_40_code
def yX12_begin : MethodName := ⟨RX12, "begin", "()V"⟩
abbrev cX12_findBest : ByteArray := prog_14_method_41_code
def yX12_findBest : MethodName := ⟨RX12, "findBest", "()Z"⟩
abbrev cX12_join : ByteArray := prog_14_method_42_code
def yX12_join : MethodName := ⟨RX12, "join", "()V"⟩
abbrev cX12_heap : ByteArray := prog_14_method_43_code
def yX12_heap : MethodName := ⟨RX12, "heap", "(II)I"⟩
abbrev cX12_worth : ByteArray := prog_14_method_44_code
def yX12_worth : MethodName := ⟨RX12, "worth", "(I)I"⟩
abbrev cX12_near : ByteArray := prog_14_method_45_code
def yX12_near : MethodName := ⟨RX12, "near", "(I)I"⟩
abbrev cX12_sure : ByteArray := prog_14_method_46_code
def yX12_sure : MethodName := ⟨RX12, "sure", "(II)I"⟩
abbrev cX12_findHeapMiddles : ByteArray := prog_14_method_47_code
def yX12_findHeapMiddles : MethodName := ⟨RX12, "findHeapMiddles", "()V"⟩
abbrev cX12_wrong : ByteArray := prog_14_method_48_code
def yX12_wrong : MethodName := ⟨RX12, "wrong", "(I)I"⟩
abbrev cX12_middle : ByteArray := prog_14_method_49_code
def yX12_middle : MethodName := ⟨RX12, "middle", "(II)I"⟩
abbrev cX12_twice : ByteArray := prog_14_method_50_code
def yX12_twice : MethodName := ⟨RX12, "twice", "(II)I"⟩
abbrev cX12_keep : ByteArray := prog_14_method_51_code
def yX12_keep : MethodName := ⟨RX12, "keep", "(II)I"⟩
abbrev cX12_forget : ByteArray := prog_14_method_52_code
def yX12_forget : MethodName := ⟨RX12, "forget", "(I)I"⟩
abbrev cX12_back : ByteArray := prog_14_method_53_code
def yX12_back : MethodName := ⟨RX12, "back", "(II)I"⟩
abbrev cX12_bitsIn : ByteArray := prog_14_method_54_code
def yX12_bitsIn : MethodName := ⟨RX12, "bitsIn", "(I)I"⟩
abbrev cX12_offsOf : ByteArray := prog_14_method_55_code
def yX12_offsOf : MethodName := ⟨RX12, "offsOf", "(II)I"⟩
abbrev cX12_odds : ByteArray := prog_14_method_56_code
def yX12_odds : MethodName := ⟨RX12, "odds", "(III)I"⟩
abbrev cX12_heapOfRow : ByteArray := prog_14_method_57_code
def yX12_heapOfRow : MethodName := ⟨RX12, "heapOfRow", "(I)I"⟩
abbrev cX12_show : ByteArray := prog_14_method_58_code
def yX12_show : MethodName := ⟨RX12, "show", "()I"⟩
abbrev cX12_otherwise : ByteArray := prog_14_method_59_code
def yX12_otherwise : MethodName := ⟨RX12, "otherwise", "()I"⟩
abbrev cX12_word : ByteArray := prog_14_method_60_code
def yX12_word : MethodName := ⟨RX12, "word", "(II)I"⟩
abbrev cX12_hung : ByteArray := prog_14_method_61_code
def yX12_hung : MethodName := ⟨RX12, "hung", "(II)I"⟩
abbrev cX12_truth : ByteArray := prog_14_method_62_code
def yX12_truth : MethodName := ⟨RX12, "truth", "(III)I"⟩
abbrev cX12_mostRight : ByteArray := prog_14_method_63_code
def yX12_mostRight : MethodName := ⟨RX12, "mostRight", "()I"⟩
abbrev cX12_errors : ByteArray := prog_14_method_64_code
def yX12_errors : MethodName := ⟨RX12, "errors", "(I)I"⟩
abbrev cX12_weight : ByteArray := prog_14_method_65_code
def yX12_weight : MethodName := ⟨RX12, "weight", "(II)I"⟩
abbrev cX12_count : ByteArray := prog_14_method_66_code
def yX12_count : MethodName := ⟨RX12, "count", "(I)I"⟩
abbrev cX12_trace : ByteArray := prog_14_method_67_code
def yX12_trace : MethodName := ⟨RX12, "trace", "()J"⟩
def RJx145de : String := "java/io/Serializable"
def TJx145de : u_T := fun k => match k with
  | _ => ("", "", "", false)
def tyJx145de : Nat → FieldType := fun k => match k with
  | _ => .int
abbrev wsJx145de0 : List Cond := u_ws RJx145de TJx145de 0
theorem nmJx145de : ∀ a, a < 0 → ∀ b, b < 0 → a ≠ b → (TJx145de a).2.1 ≠ (TJx145de b).2.1 := by decide +kernel
theorem tyJx145de_ok : ∀ k, k < 0 → parseFieldDescriptor (TJx145de k).2.2.1 = some (tyJx145de k) := by decide +kernel
def RJx9f9b0 : String := "java/lang/CharSequence"
def TJx9f9b0 : u_T := fun k => match k with
  | _ => ("", "", "", false)
def tyJx9f9b0 : Nat → FieldType := fun k => match k with
  | _ => .int
abbrev wsJx9f9b00 : List Cond := u_ws RJx9f9b0 TJx9f9b0 0
theorem nmJx9f9b0 : ∀ a, a < 0 → ∀ b, b < 0 → a ≠ b → (TJx9f9b0 a).2.1 ≠ (TJx9f9b0 b).2.1 := by decide +kernel
theorem tyJx9f9b0_ok : ∀ k, k < 0 → parseFieldDescriptor (TJx9f9b0 k).2.2.1 = some (tyJx9f9b0 k) := by decide +kernel
def RJxb160c : String := "java/lang/Comparable"
def TJxb160c : u_T := fun k => match k with
  | _ => ("", "", "", false)
def tyJxb160c : Nat → FieldType := fun k => match k with
  | _ => .int
abbrev wsJxb160c0 : List Cond := u_ws RJxb160c TJxb160c 0
theorem nmJxb160c : ∀ a, a < 0 → ∀ b, b < 0 → a ≠ b → (TJxb160c a).2.1 ≠ (TJxb160c b).2.1 := by decide +kernel
theorem tyJxb160c_ok : ∀ k, k < 0 → parseFieldDescriptor (TJxb160c k).2.2.1 = some (tyJxb160c k) := by decide +kernel
def RJ6 : String := "java/lang/Integer"
def TJ6 : u_T := fun k => match k with
  | _ => ("", "", "", false)
def tyJ6 : Nat → FieldType := fun k => match k with
  | _ => .int
abbrev wsJ60 : List Cond := u_ws RJ6 TJ6 0
theorem nmJ6 : ∀ a, a < 0 → ∀ b, b < 0 → a ≠ b → (TJ6 a).2.1 ≠ (TJ6 b).2.1 := by decide +kernel
theorem tyJ6_ok : ∀ k, k < 0 → parseFieldDescriptor (TJ6 k).2.2.1 = some (tyJ6 k) := by decide +kernel
abbrev cJ6_bitCount_0f7a4 : ByteArray := prog_15_method_49_code
def yJ6_bitCount_0f7a4 : MethodName := ⟨RJ6, "bitCount", "(I)I"⟩
def RJ9 : String := "java/lang/Math"
def TJ9 : u_T := fun k => match k with
  | _ => ("", "", "", false)
def tyJ9 : Nat → FieldType := fun k => match k with
  | _ => .int
abbrev wsJ90 : List Cond := u_ws RJ9 TJ9 0
theorem nmJ9 : ∀ a, a < 0 → ∀ b, b < 0 → a ≠ b → (TJ9 a).2.1 ≠ (TJ9 b).2.1 := by decide +kernel
theorem tyJ9_ok : ∀ k, k < 0 → parseFieldDescriptor (TJ9 k).2.2.1 = some (tyJ9 k) := by decide +kernel
abbrev cJ9_abs_0f7a4 : ByteArray := prog_16_method_59_code
def yJ9_abs_0f7a4 : MethodName := ⟨RJ9, "abs", "(I)I"⟩
abbrev cJ9_max_7cf53 : ByteArray := prog_16_method_65_code
def yJ9_max_7cf53 : MethodName := ⟨RJ9, "max", "(II)I"⟩
abbrev cJ9_min_7cf53 : ByteArray := prog_16_method_69_code
def yJ9_min_7cf53 : MethodName := ⟨RJ9, "min", "(II)I"⟩
def RJ0 : String := "java/lang/String"
def TJ0 : u_T := fun k => match k with
  | _ => ("", "", "", false)
def tyJ0 : Nat → FieldType := fun k => match k with
  | _ => .int
abbrev wsJ00 : List Cond := u_ws RJ0 TJ0 0
theorem nmJ0 : ∀ a, a < 0 → ∀ b, b < 0 → a ≠ b → (TJ0 a).2.1 ≠ (TJ0 b).2.1 := by decide +kernel
theorem tyJ0_ok : ∀ k, k < 0 → parseFieldDescriptor (TJ0 k).2.2.1 = some (tyJ0 k) := by decide +kernel
abbrev cJ0_length_8abf5 : ByteArray := prog_17_method_54_code
def yJ0_length_8abf5 : MethodName := ⟨RJ0, "length", "()I"⟩
abbrev cJ0_charAt_5068e : ByteArray := prog_17_method_56_code
def yJ0_charAt_5068e : MethodName := ⟨RJ0, "charAt", "(I)C"⟩
abbrev cJ0_coder_7d493 : ByteArray := prog_17_method_152_code
def yJ0_coder_7d493 : MethodName := ⟨RJ0, "coder", "()B"⟩
abbrev cJ0_isLatin1_aae02 : ByteArray := prog_17_method_154_code
def yJ0_isLatin1_aae02 : MethodName := ⟨RJ0, "isLatin1", "()Z"⟩
abbrev cJ0_checkIndex_df160 : ByteArray := prog_17_method_155_code
def yJ0_checkIndex_df160 : MethodName := ⟨RJ0, "checkIndex", "(II)V"⟩
def RJ1 : String := "java/lang/StringLatin1"
def TJ1 : u_T := fun k => match k with
  | _ => ("", "", "", false)
def tyJ1 : Nat → FieldType := fun k => match k with
  | _ => .int
abbrev wsJ10 : List Cond := u_ws RJ1 TJ1 0
theorem nmJ1 : ∀ a, a < 0 → ∀ b, b < 0 → a ≠ b → (TJ1 a).2.1 ≠ (TJ1 b).2.1 := by decide +kernel
theorem tyJ1_ok : ∀ k, k < 0 → parseFieldDescriptor (TJ1 k).2.2.1 = some (tyJ1 k) := by decide +kernel
abbrev cJ1_charAt_3b067 : ByteArray := prog_18_method_2_code
def yJ1_charAt_3b067 : MethodName := ⟨RJ1, "charAt", "([BI)C"⟩
def RJ2 : String := "java/lang/StringUTF16"
def TJ2 : u_T := fun k => match k with
  | _ => ("", "", "", false)
def tyJ2 : Nat → FieldType := fun k => match k with
  | _ => .int
abbrev wsJ20 : List Cond := u_ws RJ2 TJ2 0
theorem nmJ2 : ∀ a, a < 0 → ∀ b, b < 0 → a ≠ b → (TJ2 a).2.1 ≠ (TJ2 b).2.1 := by decide +kernel
theorem tyJ2_ok : ∀ k, k < 0 → parseFieldDescriptor (TJ2 k).2.2.1 = some (tyJ2 k) := by decide +kernel
abbrev cJ2_getChar_3b067 : ByteArray := prog_19_method_5_code
def yJ2_getChar_3b067 : MethodName := ⟨RJ2, "getChar", "([BI)C"⟩
abbrev cJ2_length_9d52b : ByteArray := prog_19_method_6_code
def yJ2_length_9d52b : MethodName := ⟨RJ2, "length", "([B)I"⟩
abbrev cJ2_charAt_3b067 : ByteArray := prog_19_method_83_code
def yJ2_charAt_3b067 : MethodName := ⟨RJ2, "charAt", "([BI)C"⟩
abbrev cJ2_checkIndex_2214a : ByteArray := prog_19_method_91_code
def yJ2_checkIndex_2214a : MethodName := ⟨RJ2, "checkIndex", "(I[B)V"⟩
def RJxfd54e : String := "java/lang/constant/Constable"
def TJxfd54e : u_T := fun k => match k with
  | _ => ("", "", "", false)
def tyJxfd54e : Nat → FieldType := fun k => match k with
  | _ => .int
abbrev wsJxfd54e0 : List Cond := u_ws RJxfd54e TJxfd54e 0
theorem nmJxfd54e : ∀ a, a < 0 → ∀ b, b < 0 → a ≠ b → (TJxfd54e a).2.1 ≠ (TJxfd54e b).2.1 := by decide +kernel
theorem tyJxfd54e_ok : ∀ k, k < 0 → parseFieldDescriptor (TJxfd54e k).2.2.1 = some (tyJxfd54e k) := by decide +kernel
def RJx3cf43 : String := "java/lang/constant/ConstantDesc"
def TJx3cf43 : u_T := fun k => match k with
  | _ => ("", "", "", false)
def tyJx3cf43 : Nat → FieldType := fun k => match k with
  | _ => .int
abbrev wsJx3cf430 : List Cond := u_ws RJx3cf43 TJx3cf43 0
theorem nmJx3cf43 : ∀ a, a < 0 → ∀ b, b < 0 → a ≠ b → (TJx3cf43 a).2.1 ≠ (TJx3cf43 b).2.1 := by decide +kernel
theorem tyJx3cf43_ok : ∀ k, k < 0 → parseFieldDescriptor (TJx3cf43 k).2.2.1 = some (tyJx3cf43 k) := by decide +kernel
def RJ7 : String := "java/util/Arrays"
def TJ7 : u_T := fun k => match k with
  | _ => ("", "", "", false)
def tyJ7 : Nat → FieldType := fun k => match k with
  | _ => .int
abbrev wsJ70 : List Cond := u_ws RJ7 TJ7 0
theorem nmJ7 : ∀ a, a < 0 → ∀ b, b < 0 → a ≠ b → (TJ7 a).2.1 ≠ (TJ7 b).2.1 := by decide +kernel
theorem tyJ7_ok : ∀ k, k < 0 → parseFieldDescriptor (TJ7 k).2.2.1 = some (tyJ7 k) := by decide +kernel
abbrev cJ7_fill_53178 : ByteArray := prog_20_method_103_code
def yJ7_fill_53178 : MethodName := ⟨RJ7, "fill", "([II)V"⟩
def RJ3 : String := "jdk/internal/util/Preconditions"
def TJ3 : u_T := fun k => match k with
  | _ => ("", "", "", false)
def tyJ3 : Nat → FieldType := fun k => match k with
  | _ => .int
abbrev wsJ30 : List Cond := u_ws RJ3 TJ3 0
theorem nmJ3 : ∀ a, a < 0 → ∀ b, b < 0 → a ≠ b → (TJ3 a).2.1 ≠ (TJ3 b).2.1 := by decide +kernel
theorem tyJ3_ok : ∀ k, k < 0 → parseFieldDescriptor (TJ3 k).2.2.1 = some (tyJ3 k) := by decide +kernel
abbrev cJ3_checkIndex_8e157 : ByteArray := prog_21_method_11_code
def yJ3_checkIndex_8e157 : MethodName := ⟨RJ3, "checkIndex", "(IILjava/util/function/BiFunction;)I"⟩
def RL : String := "VoiceHeapsLaw"
abbrev cL_law : ByteArray := code
def yL_law : MethodName := ⟨RL, "law", "([I)Z"⟩
def wsX4_init : List Cond := .code yX4_init cX4_init 1 none :: ([.methodLink RX4 3 objectInit, .instanceMethod objectInit, .code objectInit ⟨#[0xb1]⟩ 1 none, .arrayClass .int, .fieldLink RX4 9 "VoiceHeaps$Heaping" "heapOf" "[I", .fieldLink RX4 15 "VoiceHeaps$Heaping" "renamed" "[I", .fieldLink RX4 18 "VoiceHeaps$Heaping" "middles" "[I"] ++ wsX40)
def wsX0_init : List Cond := .code yX0_init cX0_init 1 none :: ([.methodLink RX0 3 objectInit, .instanceMethod objectInit, .code objectInit ⟨#[0xb1]⟩ 1 none, .classLink RX0 9 RX4, .instantiable RX4 5, .initialized RX4, .fieldLink RX0 12 "VoiceHeaps$AllHeapings" "best" "LVoiceHeaps$Heaping;", .arrayClass .int, .fieldLink RX0 18 "VoiceHeaps$AllHeapings" "heapOf" "[I", .fieldLink RX0 22 "VoiceHeaps$AllHeapings" "members" "[I", .instanceMethod yX4_init, .code yX4_init cX4_init 1 none, .methodLink RX4 3 objectInit, .fieldLink RX4 9 "VoiceHeaps$Heaping" "heapOf" "[I", .fieldLink RX4 15 "VoiceHeaps$Heaping" "renamed" "[I", .fieldLink RX4 18 "VoiceHeaps$Heaping" "middles" "[I"] ++ wsX40 ++ wsX00)
def wsJ7_fill_53178 : List Cond := .code yJ7_fill_53178 cJ7_fill_53178 4 none :: ([])
def wsX0_meetNear : List Cond := .code yX0_meetNear cX0_meetNear 5 none :: ([.fieldLink RX0 44 "VoiceHeaps$AllHeapings" "least" "I", .fieldLink RX0 47 "VoiceHeaps$AllHeapings" "nearOnes" "I", .fieldLink RX0 50 "VoiceHeaps$AllHeapings" "fewest" "I", .methodLink RX0 95 Lib.Math.min.name, .static Lib.Math.min.name, .initialized "java/lang/Math", .code Lib.Math.min.name Lib.Math.min.code 2 (some .int), .fieldLink RX0 53 "VoiceHeaps$AllHeapings" "most" "I", .methodLink RX0 74 Lib.Math.max.name, .static Lib.Math.max.name, .code Lib.Math.max.name Lib.Math.max.code 2 (some .int), .fieldLink RX0 58 "VoiceHeaps$AllHeapings" "always" "J", .fieldLink RX0 62 "VoiceHeaps$AllHeapings" "ever" "J"] ++ wsX00)
def wsX0_meet : List Cond := .code yX0_meet cX0_meet 7 none :: ([.fieldLink RX0 25 "VoiceHeaps$AllHeapings" "isForNear" "Z", .fieldLink RX0 12 "VoiceHeaps$AllHeapings" "best" "LVoiceHeaps$Heaping;", .fieldLink RX0 18 "VoiceHeaps$AllHeapings" "heapOf" "[I", .methodLink RX0 87 yX0_meetNear, .instanceMethod yX0_meetNear, .selects RX0 yX0_meetNear yX0_meetNear, .initialized RX0, .code yX0_meetNear cX0_meetNear 5 none, .fieldLink RX0 44 "VoiceHeaps$AllHeapings" "least" "I", .fieldLink RX0 47 "VoiceHeaps$AllHeapings" "nearOnes" "I", .fieldLink RX0 50 "VoiceHeaps$AllHeapings" "fewest" "I", .methodLink RX0 95 Lib.Math.min.name, .static Lib.Math.min.name, .initialized "java/lang/Math", .code Lib.Math.min.name Lib.Math.min.code 2 (some .int), .fieldLink RX0 53 "VoiceHeaps$AllHeapings" "most" "I", .methodLink RX0 74 Lib.Math.max.name, .static Lib.Math.max.name, .code Lib.Math.max.name Lib.Math.max.code 2 (some .int), .fieldLink RX0 58 "VoiceHeaps$AllHeapings" "always" "J", .fieldLink RX0 62 "VoiceHeaps$AllHeapings" "ever" "J"] ++ wsX00 ++ wsX40)
def wsX1_gainOf : List Cond := .code yX1_gainOf cX1_gainOf 4 (some .int) :: ([.fieldLink RX1 19 "VoiceHeaps$Bonds" "gain" "[I"] ++ wsX10)
def wsX0_placeOfPairs : List Cond := .code yX0_placeOfPairs cX0_placeOfPairs 1 (some .int) :: ([])
def wsX0_deal_r1 : List Cond := [Cond.fieldLink RX0 22 "VoiceHeaps$AllHeapings" "members" "[I", Cond.fieldLink RX0 18 "VoiceHeaps$AllHeapings" "heapOf" "[I", Cond.methodLink RX0 74 Lib.Math.max.name, Cond.static Lib.Math.max.name, Cond.initialized "java/lang/Math", Cond.code Lib.Math.max.name Lib.Math.max.code 2 (some .int), Cond.methodLink RX0 70 yX0_meet, Cond.instanceMethod yX0_meet, Cond.selects RX0 yX0_meet yX0_meet, Cond.initialized RX0, Cond.code yX0_meet cX0_meet 7 none, Cond.fieldLink RX0 25 "VoiceHeaps$AllHeapings" "isForNear" "Z", Cond.fieldLink RX0 12 "VoiceHeaps$AllHeapings" "best" "LVoiceHeaps$Heaping;", Cond.methodLink RX0 87 yX0_meetNear, Cond.instanceMethod yX0_meetNear, Cond.selects RX0 yX0_meetNear yX0_meetNear, Cond.code yX0_meetNear cX0_meetNear 5 none, Cond.fieldLink RX0 44 "VoiceHeaps$AllHeapings" "least" "I", Cond.fieldLink RX0 47 "VoiceHeaps$AllHeapings" "nearOnes" "I", Cond.fieldLink RX0 50 "VoiceHeaps$AllHeapings" "fewest" "I", Cond.methodLink RX0 95 Lib.Math.min.name, Cond.static Lib.Math.min.name, Cond.code Lib.Math.min.name Lib.Math.min.code 2 (some .int), Cond.fieldLink RX0 53 "VoiceHeaps$AllHeapings" "most" "I"]
def wsX0_deal_r2 : List Cond := [Cond.fieldLink RX0 58 "VoiceHeaps$AllHeapings" "always" "J", Cond.fieldLink RX0 62 "VoiceHeaps$AllHeapings" "ever" "J", Cond.methodLink RX0 80 yX1_gainOf, Cond.instanceMethod yX1_gainOf, Cond.selects RX1 yX1_gainOf yX1_gainOf, Cond.initialized RX1, Cond.code yX1_gainOf cX1_gainOf 4 (some .int), Cond.fieldLink RX1 19 "VoiceHeaps$Bonds" "gain" "[I", Cond.methodLink RX0 83 yX0_placeOfPairs, Cond.static yX0_placeOfPairs, Cond.code yX0_placeOfPairs cX0_placeOfPairs 1 (some .int), Cond.methodLink RX0 40 yX0_deal, Cond.static yX0_deal]
def wsX0_deal : List Cond := .code yX0_deal cX0_deal 9 none :: ((wsX0_deal_r1 ++ wsX0_deal_r2) ++ wsX10 ++ wsX00 ++ wsX40)
def wsX0_findBest_r1 : List Cond := [Cond.fieldLink RX0 25 "VoiceHeaps$AllHeapings" "isForNear" "Z", Cond.fieldLink RX0 12 "VoiceHeaps$AllHeapings" "best" "LVoiceHeaps$Heaping;", Cond.constant RX0 29 (-1000000000), Cond.fieldLink RX0 22 "VoiceHeaps$AllHeapings" "members" "[I", Cond.methodLink RX0 34 yJ7_fill_53178, Cond.static yJ7_fill_53178, Cond.initialized RJ7, Cond.code yJ7_fill_53178 cJ7_fill_53178 4 none, Cond.methodLink RX0 40 yX0_deal, Cond.static yX0_deal, Cond.initialized RX0, Cond.code yX0_deal cX0_deal 9 none, Cond.fieldLink RX0 18 "VoiceHeaps$AllHeapings" "heapOf" "[I", Cond.methodLink RX0 74 Lib.Math.max.name, Cond.static Lib.Math.max.name, Cond.initialized "java/lang/Math", Cond.code Lib.Math.max.name Lib.Math.max.code 2 (some .int), Cond.methodLink RX0 70 yX0_meet, Cond.instanceMethod yX0_meet, Cond.selects RX0 yX0_meet yX0_meet, Cond.code yX0_meet cX0_meet 7 none, Cond.methodLink RX0 87 yX0_meetNear, Cond.instanceMethod yX0_meetNear, Cond.selects RX0 yX0_meetNear yX0_meetNear]
def wsX0_findBest_r2 : List Cond := [Cond.code yX0_meetNear cX0_meetNear 5 none, Cond.fieldLink RX0 44 "VoiceHeaps$AllHeapings" "least" "I", Cond.fieldLink RX0 47 "VoiceHeaps$AllHeapings" "nearOnes" "I", Cond.fieldLink RX0 50 "VoiceHeaps$AllHeapings" "fewest" "I", Cond.methodLink RX0 95 Lib.Math.min.name, Cond.static Lib.Math.min.name, Cond.code Lib.Math.min.name Lib.Math.min.code 2 (some .int), Cond.fieldLink RX0 53 "VoiceHeaps$AllHeapings" "most" "I", Cond.fieldLink RX0 58 "VoiceHeaps$AllHeapings" "always" "J", Cond.fieldLink RX0 62 "VoiceHeaps$AllHeapings" "ever" "J", Cond.methodLink RX0 80 yX1_gainOf, Cond.instanceMethod yX1_gainOf, Cond.selects RX1 yX1_gainOf yX1_gainOf, Cond.initialized RX1, Cond.code yX1_gainOf cX1_gainOf 4 (some .int), Cond.fieldLink RX1 19 "VoiceHeaps$Bonds" "gain" "[I", Cond.methodLink RX0 83 yX0_placeOfPairs, Cond.static yX0_placeOfPairs, Cond.code yX0_placeOfPairs cX0_placeOfPairs 1 (some .int)]
def wsX0_findBest : List Cond := .code yX0_findBest cX0_findBest 2 none :: ((wsX0_findBest_r1 ++ wsX0_findBest_r2) ++ wsX00 ++ wsX40 ++ wsX10)
def wsX0_findNear_r1 : List Cond := [Cond.fieldLink RX0 25 "VoiceHeaps$AllHeapings" "isForNear" "Z", Cond.fieldLink RX0 12 "VoiceHeaps$AllHeapings" "best" "LVoiceHeaps$Heaping;", Cond.fieldLink RX0 44 "VoiceHeaps$AllHeapings" "least" "I", Cond.fieldLink RX0 47 "VoiceHeaps$AllHeapings" "nearOnes" "I", Cond.fieldLink RX0 50 "VoiceHeaps$AllHeapings" "fewest" "I", Cond.fieldLink RX0 53 "VoiceHeaps$AllHeapings" "most" "I", Cond.constantLong RX0 56 (-1), Cond.fieldLink RX0 58 "VoiceHeaps$AllHeapings" "always" "J", Cond.fieldLink RX0 62 "VoiceHeaps$AllHeapings" "ever" "J", Cond.fieldLink RX0 22 "VoiceHeaps$AllHeapings" "members" "[I", Cond.methodLink RX0 34 yJ7_fill_53178, Cond.static yJ7_fill_53178, Cond.initialized RJ7, Cond.code yJ7_fill_53178 cJ7_fill_53178 4 none, Cond.methodLink RX0 40 yX0_deal, Cond.static yX0_deal, Cond.initialized RX0, Cond.code yX0_deal cX0_deal 9 none, Cond.fieldLink RX0 18 "VoiceHeaps$AllHeapings" "heapOf" "[I", Cond.methodLink RX0 74 Lib.Math.max.name, Cond.static Lib.Math.max.name, Cond.initialized "java/lang/Math", Cond.code Lib.Math.max.name Lib.Math.max.code 2 (some .int), Cond.methodLink RX0 70 yX0_meet]
def wsX0_findNear_r2 : List Cond := [Cond.instanceMethod yX0_meet, Cond.selects RX0 yX0_meet yX0_meet, Cond.code yX0_meet cX0_meet 7 none, Cond.methodLink RX0 87 yX0_meetNear, Cond.instanceMethod yX0_meetNear, Cond.selects RX0 yX0_meetNear yX0_meetNear, Cond.code yX0_meetNear cX0_meetNear 5 none, Cond.methodLink RX0 95 Lib.Math.min.name, Cond.static Lib.Math.min.name, Cond.code Lib.Math.min.name Lib.Math.min.code 2 (some .int), Cond.methodLink RX0 80 yX1_gainOf, Cond.instanceMethod yX1_gainOf, Cond.selects RX1 yX1_gainOf yX1_gainOf, Cond.initialized RX1, Cond.code yX1_gainOf cX1_gainOf 4 (some .int), Cond.fieldLink RX1 19 "VoiceHeaps$Bonds" "gain" "[I", Cond.methodLink RX0 83 yX0_placeOfPairs, Cond.static yX0_placeOfPairs, Cond.code yX0_placeOfPairs cX0_placeOfPairs 1 (some .int)]
def wsX0_findNear : List Cond := .code yX0_findNear cX0_findNear 3 none :: ((wsX0_findNear_r1 ++ wsX0_findNear_r2) ++ wsX00 ++ wsX40 ++ wsX10)
def wsX0_sureness : List Cond := .code yX0_sureness cX0_sureness 5 (some .int) :: ([.methodLink RX0 74 Lib.Math.max.name, .static Lib.Math.max.name, .initialized "java/lang/Math", .code Lib.Math.max.name Lib.Math.max.code 2 (some .int), .methodLink RX0 95 Lib.Math.min.name, .static Lib.Math.min.name, .code Lib.Math.min.name Lib.Math.min.code 2 (some .int), .fieldLink RX0 58 "VoiceHeaps$AllHeapings" "always" "J", .fieldLink RX0 62 "VoiceHeaps$AllHeapings" "ever" "J", .methodLink RX0 83 yX0_placeOfPairs, .static yX0_placeOfPairs, .initialized RX0, .code yX0_placeOfPairs cX0_placeOfPairs 1 (some .int)] ++ wsX00)
def wsX1_init : List Cond := .code yX1_init cX1_init 1 none :: ([.methodLink RX1 3 objectInit, .instanceMethod objectInit, .code objectInit ⟨#[0xb1]⟩ 1 none, .classLink RX1 9 "[[I", .arrayClass .int, .fieldLink RX1 11 "VoiceHeaps$Bonds" "bond" "[[I", .fieldLink RX1 16 "VoiceHeaps$Bonds" "link" "[[I", .fieldLink RX1 19 "VoiceHeaps$Bonds" "gain" "[I"] ++ wsX10)
def wsX11_off : List Cond := .code yX11_off cX11_off 6 (some .int) :: ([.methodLink RX11 326 Lib.Math.abs.name, .static Lib.Math.abs.name, .initialized "java/lang/Math", .code Lib.Math.abs.name Lib.Math.abs.code 1 (some .int)])
def wsX2_likeness : List Cond := .code yX2_likeness cX2_likeness 4 (some .int) :: ([.fieldLink RX2 21 "VoiceHeaps$Cutting" "middles" "[I", .fieldLink RX2 15 "VoiceHeaps$Cutting" "size" "[I", .methodLink RX2 90 Lib.Math.min.name, .static Lib.Math.min.name, .initialized "java/lang/Math", .code Lib.Math.min.name Lib.Math.min.code 2 (some .int), .static yX11_off, .initialized RX11, .code yX11_off cX11_off 6 (some .int), .methodLink RX11 326 Lib.Math.abs.name, .static Lib.Math.abs.name, .code Lib.Math.abs.name Lib.Math.abs.code 1 (some .int)] ++ wsX20)
def wsX2_doTouch : List Cond := .code yX2_doTouch cX2_doTouch 3 (some .boolean) :: ([.methodLink RX2 100 Lib.Math.abs.name, .static Lib.Math.abs.name, .initialized "java/lang/Math", .code Lib.Math.abs.name Lib.Math.abs.code 1 (some .int), .fieldLink RX2 24 "VoiceHeaps$Cutting" "stretchOf" "[I"] ++ wsX20)
def wsX1_fillGains : List Cond := .code yX1_fillGains cX1_fillGains 6 none :: ([.fieldLink RX1 19 "VoiceHeaps$Bonds" "gain" "[I", .fieldLink RX1 11 "VoiceHeaps$Bonds" "bond" "[[I"] ++ wsX10)
def wsX1_tie_r1 : List Cond := [Cond.methodLink RX1 29 Lib.Math.min.name, Cond.static Lib.Math.min.name, Cond.initialized "java/lang/Math", Cond.code Lib.Math.min.name Lib.Math.min.code 2 (some .int), Cond.fieldLink RX1 35 "VoiceHeaps$Bonds" "pieces" "I", Cond.fieldLink RX1 11 "VoiceHeaps$Bonds" "bond" "[[I", Cond.methodLink RX1 36 yX2_likeness, Cond.instanceMethod yX2_likeness, Cond.selects RX2 yX2_likeness yX2_likeness, Cond.initialized RX2, Cond.code yX2_likeness cX2_likeness 4 (some .int), Cond.fieldLink RX2 21 "VoiceHeaps$Cutting" "middles" "[I", Cond.fieldLink RX2 15 "VoiceHeaps$Cutting" "size" "[I", Cond.methodLink RX2 90 Lib.Math.min.name, Cond.static yX11_off, Cond.initialized RX11, Cond.code yX11_off cX11_off 6 (some .int), Cond.methodLink RX11 326 Lib.Math.abs.name, Cond.static Lib.Math.abs.name, Cond.code Lib.Math.abs.name Lib.Math.abs.code 1 (some .int), Cond.methodLink RX1 40 yX2_doTouch, Cond.instanceMethod yX2_doTouch, Cond.selects RX2 yX2_doTouch yX2_doTouch, Cond.code yX2_doTouch cX2_doTouch 3 (some .boolean)]
def wsX1_tie_r2 : List Cond := [Cond.methodLink RX2 100 Lib.Math.abs.name, Cond.fieldLink RX2 24 "VoiceHeaps$Cutting" "stretchOf" "[I", Cond.methodLink RX1 44 yX1_fillGains, Cond.instanceMethod yX1_fillGains, Cond.selects RX1 yX1_fillGains yX1_fillGains, Cond.initialized RX1, Cond.code yX1_fillGains cX1_fillGains 6 none, Cond.fieldLink RX1 19 "VoiceHeaps$Bonds" "gain" "[I"]
def wsX1_tie : List Cond := .code yX1_tie cX1_tie 7 none :: ((wsX1_tie_r1 ++ wsX1_tie_r2) ++ wsX20 ++ wsX10)
def wsX1_joinTwo : List Cond := .code yX1_joinTwo cX1_joinTwo 7 (some .boolean) :: ([.fieldLink RX1 35 "VoiceHeaps$Bonds" "pieces" "I", .fieldLink RX1 16 "VoiceHeaps$Bonds" "link" "[[I"] ++ wsX10 ++ wsX40)
def wsX4_numberHeaps : List Cond := .code yX4_numberHeaps cX4_numberHeaps 4 none :: ([.fieldLink RX4 15 "VoiceHeaps$Heaping" "renamed" "[I", .fieldLink RX4 27 "VoiceHeaps$Heaping" "heaps" "I", .fieldLink RX4 9 "VoiceHeaps$Heaping" "heapOf" "[I", .methodLink RX4 21 yJ7_fill_53178, .static yJ7_fill_53178, .initialized RJ7, .code yJ7_fill_53178 cJ7_fill_53178 4 none] ++ wsX40)
def wsX1_worthOf : List Cond := .code yX1_worthOf cX1_worthOf 5 (some .int) :: ([.fieldLink RX1 35 "VoiceHeaps$Bonds" "pieces" "I", .fieldLink RX1 11 "VoiceHeaps$Bonds" "bond" "[[I"] ++ wsX10 ++ wsX40)
def wsX1_join : List Cond := .code yX1_join cX1_join 4 none :: ([.fieldLink RX1 35 "VoiceHeaps$Bonds" "pieces" "I", .fieldLink RX1 16 "VoiceHeaps$Bonds" "link" "[[I", .fieldLink RX1 11 "VoiceHeaps$Bonds" "bond" "[[I", .methodLink RX1 53 yX1_joinTwo, .instanceMethod yX1_joinTwo, .selects RX1 yX1_joinTwo yX1_joinTwo, .initialized RX1, .code yX1_joinTwo cX1_joinTwo 7 (some .boolean), .methodLink RX1 57 yX4_numberHeaps, .instanceMethod yX4_numberHeaps, .selects RX4 yX4_numberHeaps yX4_numberHeaps, .initialized RX4, .code yX4_numberHeaps cX4_numberHeaps 4 none, .fieldLink RX4 15 "VoiceHeaps$Heaping" "renamed" "[I", .fieldLink RX4 27 "VoiceHeaps$Heaping" "heaps" "I", .fieldLink RX4 9 "VoiceHeaps$Heaping" "heapOf" "[I", .methodLink RX4 21 yJ7_fill_53178, .static yJ7_fill_53178, .initialized RJ7, .code yJ7_fill_53178 cJ7_fill_53178 4 none, .methodLink RX1 60 yX1_worthOf, .instanceMethod yX1_worthOf, .selects RX1 yX1_worthOf yX1_worthOf, .code yX1_worthOf cX1_worthOf 5 (some .int)] ++ wsX10 ++ wsX40)
def wsX2_init : List Cond := .code yX2_init cX2_init 1 none :: ([.methodLink RX2 3 objectInit, .instanceMethod objectInit, .code objectInit ⟨#[0xb1]⟩ 1 none, .arrayClass .int, .fieldLink RX2 9 "VoiceHeaps$Cutting" "first" "[I", .fieldLink RX2 15 "VoiceHeaps$Cutting" "size" "[I", .fieldLink RX2 18 "VoiceHeaps$Cutting" "spread" "[I", .fieldLink RX2 21 "VoiceHeaps$Cutting" "middles" "[I", .fieldLink RX2 24 "VoiceHeaps$Cutting" "stretchOf" "[I", .fieldLink RX2 27 "VoiceHeaps$Cutting" "pieceOf" "[I", .fieldLink RX2 30 "VoiceHeaps$Cutting" "cost" "[I", .fieldLink RX2 33 "VoiceHeaps$Cutting" "most" "[I"] ++ wsX20)
def wsX7_isHeard : List Cond := .code yX7_isHeard cX7_isHeard 5 (some .boolean) :: ([.fieldLink RX7 15 "VoiceHeaps$RowBook" "isDeaf" "[Z", .fieldLink RX7 19 "VoiceHeaps$RowBook" "isOut" "[Z", .fieldLink RX7 9 "VoiceHeaps$RowBook" "numbers" "[I"] ++ wsX70)
def wsX3_empty : List Cond := .code yX3_empty cX3_empty 1 none :: ([.fieldLink RX3 16 "VoiceHeaps$Gathering" "rows" "I", .fieldLink RX3 20 "VoiceHeaps$Gathering" "spread" "I"] ++ wsX30)
def wsX3_take : List Cond := .code yX3_take cX3_take 7 none :: ([.fieldLink RX3 16 "VoiceHeaps$Gathering" "rows" "I", .fieldLink RX3 11 "VoiceHeaps$Gathering" "sorted" "[[I", .fieldLink RX3 20 "VoiceHeaps$Gathering" "spread" "I", .methodLink RX3 29 Lib.Math.max.name, .static Lib.Math.max.name, .initialized "java/lang/Math", .code Lib.Math.max.name Lib.Math.max.code 2 (some .int)] ++ wsX30 ++ wsX70)
def wsX2_findCosts : List Cond := .code yX2_findCosts cX2_findCosts 9 none :: ([.fieldLink RX2 30 "VoiceHeaps$Cutting" "cost" "[I", .constant RX2 77 (1000000000), .fieldLink RX2 33 "VoiceHeaps$Cutting" "most" "[I", .methodLink RX2 72 yX3_empty, .instanceMethod yX3_empty, .selects RX3 yX3_empty yX3_empty, .initialized RX3, .code yX3_empty cX3_empty 1 none, .fieldLink RX3 16 "VoiceHeaps$Gathering" "rows" "I", .fieldLink RX3 20 "VoiceHeaps$Gathering" "spread" "I", .methodLink RX2 78 yX3_take, .instanceMethod yX3_take, .selects RX3 yX3_take yX3_take, .code yX3_take cX3_take 7 none, .fieldLink RX3 11 "VoiceHeaps$Gathering" "sorted" "[[I", .methodLink RX3 29 Lib.Math.max.name, .static Lib.Math.max.name, .initialized "java/lang/Math", .code Lib.Math.max.name Lib.Math.max.code 2 (some .int)] ++ wsX20 ++ wsX30 ++ wsX70)
def wsX3_writeMiddle : List Cond := .code yX3_writeMiddle cX3_writeMiddle 4 none :: ([.fieldLink RX3 16 "VoiceHeaps$Gathering" "rows" "I", .fieldLink RX3 11 "VoiceHeaps$Gathering" "sorted" "[[I"] ++ wsX30)
def wsX2_addPieces_r1 : List Cond := [Cond.fieldLink RX2 36 "VoiceHeaps$Cutting" "pieces" "I", Cond.fieldLink RX2 33 "VoiceHeaps$Cutting" "most" "[I", Cond.methodLink RX2 84 Lib.Math.max.name, Cond.static Lib.Math.max.name, Cond.initialized "java/lang/Math", Cond.code Lib.Math.max.name Lib.Math.max.code 2 (some .int), Cond.methodLink RX2 90 Lib.Math.min.name, Cond.static Lib.Math.min.name, Cond.code Lib.Math.min.name Lib.Math.min.code 2 (some .int), Cond.fieldLink RX2 27 "VoiceHeaps$Cutting" "pieceOf" "[I", Cond.fieldLink RX2 9 "VoiceHeaps$Cutting" "first" "[I", Cond.fieldLink RX2 15 "VoiceHeaps$Cutting" "size" "[I", Cond.fieldLink RX2 18 "VoiceHeaps$Cutting" "spread" "[I", Cond.fieldLink RX2 24 "VoiceHeaps$Cutting" "stretchOf" "[I", Cond.fieldLink RX2 40 "VoiceHeaps$Cutting" "stretches" "I", Cond.fieldLink RX2 21 "VoiceHeaps$Cutting" "middles" "[I", Cond.methodLink RX2 72 yX3_empty, Cond.instanceMethod yX3_empty, Cond.selects RX3 yX3_empty yX3_empty, Cond.initialized RX3, Cond.code yX3_empty cX3_empty 1 none, Cond.fieldLink RX3 16 "VoiceHeaps$Gathering" "rows" "I", Cond.fieldLink RX3 20 "VoiceHeaps$Gathering" "spread" "I", Cond.methodLink RX2 78 yX3_take]
def wsX2_addPieces_r2 : List Cond := [Cond.instanceMethod yX3_take, Cond.selects RX3 yX3_take yX3_take, Cond.code yX3_take cX3_take 7 none, Cond.fieldLink RX3 11 "VoiceHeaps$Gathering" "sorted" "[[I", Cond.methodLink RX3 29 Lib.Math.max.name, Cond.methodLink RX2 93 yX3_writeMiddle, Cond.instanceMethod yX3_writeMiddle, Cond.selects RX3 yX3_writeMiddle yX3_writeMiddle, Cond.code yX3_writeMiddle cX3_writeMiddle 4 none]
def wsX2_addPieces : List Cond := .code yX2_addPieces cX2_addPieces 8 none :: ((wsX2_addPieces_r1 ++ wsX2_addPieces_r2) ++ wsX20 ++ wsX30 ++ wsX70)
def wsX2_cut_r1 : List Cond := [Cond.fieldLink RX2 36 "VoiceHeaps$Cutting" "pieces" "I", Cond.fieldLink RX2 40 "VoiceHeaps$Cutting" "stretches" "I", Cond.fieldLink RX2 43 "VoiceHeaps$Cutting" "total" "I", Cond.fieldLink RX2 46 "VoiceHeaps$Cutting" "heardRows" "I", Cond.fieldLink RX2 27 "VoiceHeaps$Cutting" "pieceOf" "[I", Cond.fieldLink RX2 30 "VoiceHeaps$Cutting" "cost" "[I", Cond.methodLink RX2 49 yJ7_fill_53178, Cond.static yJ7_fill_53178, Cond.initialized RJ7, Cond.code yJ7_fill_53178 cJ7_fill_53178 4 none, Cond.methodLink RX2 60 yX7_isHeard, Cond.instanceMethod yX7_isHeard, Cond.selects RX7 yX7_isHeard yX7_isHeard, Cond.initialized RX7, Cond.code yX7_isHeard cX7_isHeard 5 (some .boolean), Cond.fieldLink RX7 15 "VoiceHeaps$RowBook" "isDeaf" "[Z", Cond.fieldLink RX7 19 "VoiceHeaps$RowBook" "isOut" "[Z", Cond.fieldLink RX7 9 "VoiceHeaps$RowBook" "numbers" "[I", Cond.methodLink RX2 64 yX2_findCosts, Cond.instanceMethod yX2_findCosts, Cond.selects RX2 yX2_findCosts yX2_findCosts, Cond.initialized RX2, Cond.code yX2_findCosts cX2_findCosts 9 none, Cond.constant RX2 77 (1000000000)]
def wsX2_cut_r2 : List Cond := [Cond.fieldLink RX2 33 "VoiceHeaps$Cutting" "most" "[I", Cond.methodLink RX2 72 yX3_empty, Cond.instanceMethod yX3_empty, Cond.selects RX3 yX3_empty yX3_empty, Cond.initialized RX3, Cond.code yX3_empty cX3_empty 1 none, Cond.fieldLink RX3 16 "VoiceHeaps$Gathering" "rows" "I", Cond.fieldLink RX3 20 "VoiceHeaps$Gathering" "spread" "I", Cond.methodLink RX2 78 yX3_take, Cond.instanceMethod yX3_take, Cond.selects RX3 yX3_take yX3_take, Cond.code yX3_take cX3_take 7 none, Cond.fieldLink RX3 11 "VoiceHeaps$Gathering" "sorted" "[[I", Cond.methodLink RX3 29 Lib.Math.max.name, Cond.static Lib.Math.max.name, Cond.initialized "java/lang/Math", Cond.code Lib.Math.max.name Lib.Math.max.code 2 (some .int), Cond.methodLink RX2 68 yX2_addPieces, Cond.instanceMethod yX2_addPieces, Cond.selects RX2 yX2_addPieces yX2_addPieces, Cond.code yX2_addPieces cX2_addPieces 8 none, Cond.methodLink RX2 84 Lib.Math.max.name, Cond.methodLink RX2 90 Lib.Math.min.name, Cond.static Lib.Math.min.name]
def wsX2_cut_r3 : List Cond := [Cond.code Lib.Math.min.name Lib.Math.min.code 2 (some .int), Cond.fieldLink RX2 9 "VoiceHeaps$Cutting" "first" "[I", Cond.fieldLink RX2 15 "VoiceHeaps$Cutting" "size" "[I", Cond.fieldLink RX2 18 "VoiceHeaps$Cutting" "spread" "[I", Cond.fieldLink RX2 24 "VoiceHeaps$Cutting" "stretchOf" "[I", Cond.fieldLink RX2 21 "VoiceHeaps$Cutting" "middles" "[I", Cond.methodLink RX2 93 yX3_writeMiddle, Cond.instanceMethod yX3_writeMiddle, Cond.selects RX3 yX3_writeMiddle yX3_writeMiddle, Cond.code yX3_writeMiddle cX3_writeMiddle 4 none]
def wsX2_cut : List Cond := .code yX2_cut cX2_cut 7 none :: ((wsX2_cut_r1 ++ (wsX2_cut_r2 ++ wsX2_cut_r3)) ++ wsX20 ++ wsX70 ++ wsX30)
def wsX2_middleOf : List Cond := .code yX2_middleOf cX2_middleOf 3 (some .int) :: ([.fieldLink RX2 36 "VoiceHeaps$Cutting" "pieces" "I", .fieldLink RX2 21 "VoiceHeaps$Cutting" "middles" "[I"] ++ wsX20)
def wsX3_init : List Cond := .code yX3_init cX3_init 1 none :: ([.methodLink RX3 3 objectInit, .instanceMethod objectInit, .code objectInit ⟨#[0xb1]⟩ 1 none, .classLink RX3 9 "[[I", .arrayClass .int, .fieldLink RX3 11 "VoiceHeaps$Gathering" "sorted" "[[I"] ++ wsX30)
def wsX4_findMiddles : List Cond := .code yX4_findMiddles cX4_findMiddles 7 none :: ([.fieldLink RX4 27 "VoiceHeaps$Heaping" "heaps" "I", .fieldLink RX4 9 "VoiceHeaps$Heaping" "heapOf" "[I", .fieldLink RX4 18 "VoiceHeaps$Heaping" "middles" "[I", .methodLink RX4 31 yX3_empty, .instanceMethod yX3_empty, .selects RX3 yX3_empty yX3_empty, .initialized RX3, .code yX3_empty cX3_empty 1 none, .fieldLink RX3 16 "VoiceHeaps$Gathering" "rows" "I", .fieldLink RX3 20 "VoiceHeaps$Gathering" "spread" "I", .methodLink RX4 46 yX3_take, .instanceMethod yX3_take, .selects RX3 yX3_take yX3_take, .code yX3_take cX3_take 7 none, .fieldLink RX3 11 "VoiceHeaps$Gathering" "sorted" "[[I", .methodLink RX3 29 Lib.Math.max.name, .static Lib.Math.max.name, .initialized "java/lang/Math", .code Lib.Math.max.name Lib.Math.max.code 2 (some .int), .methodLink RX4 50 yX3_writeMiddle, .instanceMethod yX3_writeMiddle, .selects RX3 yX3_writeMiddle yX3_writeMiddle, .code yX3_writeMiddle cX3_writeMiddle 4 none] ++ wsX40 ++ wsX70 ++ wsX20 ++ wsX30)
def wsX4_middleOf : List Cond := .code yX4_middleOf cX4_middleOf 3 (some .int) :: ([.fieldLink RX4 27 "VoiceHeaps$Heaping" "heaps" "I", .fieldLink RX4 18 "VoiceHeaps$Heaping" "middles" "[I"] ++ wsX40)
def wsX4_membersOf : List Cond := .code yX4_membersOf cX4_membersOf 5 (some .int) :: ([.fieldLink RX4 9 "VoiceHeaps$Heaping" "heapOf" "[I"] ++ wsX40)
def wsX4_offOfTwo : List Cond := .code yX4_offOfTwo cX4_offOfTwo 8 (some .int) :: ([.methodLink RX4 67 Lib.Math.min.name, .static Lib.Math.min.name, .initialized "java/lang/Math", .code Lib.Math.min.name Lib.Math.min.code 2 (some .int), .methodLink RX4 73 Lib.Math.abs.name, .static Lib.Math.abs.name, .code Lib.Math.abs.name Lib.Math.abs.code 1 (some .int), .methodLink RX4 63 yX4_middleOf, .instanceMethod yX4_middleOf, .selects RX4 yX4_middleOf yX4_middleOf, .initialized RX4, .code yX4_middleOf cX4_middleOf 3 (some .int), .fieldLink RX4 27 "VoiceHeaps$Heaping" "heaps" "I", .fieldLink RX4 18 "VoiceHeaps$Heaping" "middles" "[I", .methodLink RX4 72 yX2_middleOf, .instanceMethod yX2_middleOf, .selects RX2 yX2_middleOf yX2_middleOf, .initialized RX2, .code yX2_middleOf cX2_middleOf 3 (some .int), .fieldLink RX2 36 "VoiceHeaps$Cutting" "pieces" "I", .fieldLink RX2 21 "VoiceHeaps$Cutting" "middles" "[I"] ++ wsX40 ++ wsX20)
def wsX4_twoInOne_r1 : List Cond := [Cond.fieldLink RX4 9 "VoiceHeaps$Heaping" "heapOf" "[I", Cond.constant RX4 53 (1000000000), Cond.fieldLink RX4 27 "VoiceHeaps$Heaping" "heaps" "I", Cond.fieldLink RX4 18 "VoiceHeaps$Heaping" "middles" "[I", Cond.methodLink RX4 54 yX4_offOfTwo, Cond.instanceMethod yX4_offOfTwo, Cond.selects RX4 yX4_offOfTwo yX4_offOfTwo, Cond.initialized RX4, Cond.code yX4_offOfTwo cX4_offOfTwo 8 (some .int), Cond.methodLink RX4 67 Lib.Math.min.name, Cond.static Lib.Math.min.name, Cond.initialized "java/lang/Math", Cond.code Lib.Math.min.name Lib.Math.min.code 2 (some .int), Cond.methodLink RX4 73 Lib.Math.abs.name, Cond.static Lib.Math.abs.name, Cond.code Lib.Math.abs.name Lib.Math.abs.code 1 (some .int), Cond.methodLink RX4 63 yX4_middleOf, Cond.instanceMethod yX4_middleOf, Cond.selects RX4 yX4_middleOf yX4_middleOf, Cond.code yX4_middleOf cX4_middleOf 3 (some .int), Cond.methodLink RX4 72 yX2_middleOf, Cond.instanceMethod yX2_middleOf, Cond.selects RX2 yX2_middleOf yX2_middleOf, Cond.initialized RX2]
def wsX4_twoInOne_r2 : List Cond := [Cond.code yX2_middleOf cX2_middleOf 3 (some .int), Cond.fieldLink RX2 36 "VoiceHeaps$Cutting" "pieces" "I", Cond.fieldLink RX2 21 "VoiceHeaps$Cutting" "middles" "[I", Cond.static yX11_off, Cond.initialized RX11, Cond.code yX11_off cX11_off 6 (some .int), Cond.methodLink RX11 326 Lib.Math.abs.name]
def wsX4_twoInOne : List Cond := .code yX4_twoInOne cX4_twoInOne 10 (some .int) :: ((wsX4_twoInOne_r1 ++ wsX4_twoInOne_r2) ++ wsX40 ++ wsX20)
def wsX5_init : List Cond := .code yX5_init cX5_init 1 none :: ([.methodLink RX5 3 objectInit, .instanceMethod objectInit, .code objectInit ⟨#[0xb1]⟩ 1 none, .arrayClass .int, .fieldLink RX5 11 "VoiceHeaps$KeptVoices" "names" "[I", .fieldLink RX5 15 "VoiceHeaps$KeptVoices" "middles" "[I", .fieldLink RX5 18 "VoiceHeaps$KeptVoices" "offs" "[I"] ++ wsX50)
def wsX5_has : List Cond := .code yX5_has cX5_has 2 (some .boolean) :: ([.fieldLink RX5 21 "VoiceHeaps$KeptVoices" "voices" "I"] ++ wsX50)
def wsX5_add : List Cond := .code yX5_add cX5_add 6 (some .int) :: ([.fieldLink RX5 21 "VoiceHeaps$KeptVoices" "voices" "I", .fieldLink RX5 11 "VoiceHeaps$KeptVoices" "names" "[I", .fieldLink RX5 15 "VoiceHeaps$KeptVoices" "middles" "[I", .methodLink RX5 25 yX4_middleOf, .instanceMethod yX4_middleOf, .selects RX4 yX4_middleOf yX4_middleOf, .initialized RX4, .code yX4_middleOf cX4_middleOf 3 (some .int), .fieldLink RX4 27 "VoiceHeaps$Heaping" "heaps" "I", .fieldLink RX4 18 "VoiceHeaps$Heaping" "middles" "[I"] ++ wsX50 ++ wsX40)
def wsX5_remove : List Cond := .code yX5_remove cX5_remove 5 (some .int) :: ([.fieldLink RX5 11 "VoiceHeaps$KeptVoices" "names" "[I", .fieldLink RX5 21 "VoiceHeaps$KeptVoices" "voices" "I", .fieldLink RX5 15 "VoiceHeaps$KeptVoices" "middles" "[I", .methodLink RX5 31 yX5_has, .instanceMethod yX5_has, .selects RX5 yX5_has yX5_has, .initialized RX5, .code yX5_has cX5_has 2 (some .boolean)] ++ wsX50)
def wsX5_nearestTo : List Cond := .code yX5_nearestTo cX5_nearestTo 8 (some .int) :: ([.fieldLink RX5 21 "VoiceHeaps$KeptVoices" "voices" "I", .fieldLink RX5 15 "VoiceHeaps$KeptVoices" "middles" "[I", .static yX11_off, .initialized RX11, .code yX11_off cX11_off 6 (some .int), .methodLink RX11 326 Lib.Math.abs.name, .static Lib.Math.abs.name, .initialized "java/lang/Math", .code Lib.Math.abs.name Lib.Math.abs.code 1 (some .int)] ++ wsX50 ++ wsX40)
def wsX5_fillOffs : List Cond := .code yX5_fillOffs cX5_fillOffs 8 none :: ([.fieldLink RX5 18 "VoiceHeaps$KeptVoices" "offs" "[I", .fieldLink RX5 15 "VoiceHeaps$KeptVoices" "middles" "[I", .static yX11_off, .initialized RX11, .code yX11_off cX11_off 6 (some .int), .methodLink RX11 326 Lib.Math.abs.name, .static Lib.Math.abs.name, .initialized "java/lang/Math", .code Lib.Math.abs.name Lib.Math.abs.code 1 (some .int)] ++ wsX50 ++ wsX20)
def wsJ6_bitCount_0f7a4 : List Cond := .code yJ6_bitCount_0f7a4 cJ6_bitCount_0f7a4 1 (some .int) :: ([.constant RJ6 265 (1431655765), .constant RJ6 266 (858993459), .constant RJ6 267 (252645135)])
def wsX5_dealsOf : List Cond := .code yX5_dealsOf cX5_dealsOf 9 (some .int) :: ([.methodLink RX5 45 Lib.Math.min.name, .static Lib.Math.min.name, .initialized "java/lang/Math", .code Lib.Math.min.name Lib.Math.min.code 2 (some .int), .fieldLink RX5 18 "VoiceHeaps$KeptVoices" "offs" "[I", .methodLink RX5 50 yX5_fillOffs, .instanceMethod yX5_fillOffs, .selects RX5 yX5_fillOffs yX5_fillOffs, .initialized RX5, .code yX5_fillOffs cX5_fillOffs 8 none, .fieldLink RX5 15 "VoiceHeaps$KeptVoices" "middles" "[I", .static yX11_off, .initialized RX11, .code yX11_off cX11_off 6 (some .int), .methodLink RX11 326 Lib.Math.abs.name, .static Lib.Math.abs.name, .code Lib.Math.abs.name Lib.Math.abs.code 1 (some .int), .methodLink RX5 54 yJ6_bitCount_0f7a4, .static yJ6_bitCount_0f7a4, .initialized RJ6, .code yJ6_bitCount_0f7a4 cJ6_bitCount_0f7a4 1 (some .int), .constant RJ6 265 (1431655765), .constant RJ6 266 (858993459), .constant RJ6 267 (252645135)] ++ wsX20 ++ wsX50)
def wsX6_init : List Cond := .code yX6_init cX6_init 1 none :: ([.methodLink RX6 1 objectInit, .instanceMethod objectInit, .code objectInit ⟨#[0xb1]⟩ 1 none])
def wsX6_span : List Cond := .code yX6_span cX6_span 3 (some .int) :: ([.fieldLink RX6 35 "VoiceHeaps$Kinds" "asked" "J"] ++ wsX60 ++ wsX20)
def wsX6_voice : List Cond := .code yX6_voice cX6_voice 3 (some .int) :: ([.fieldLink RX6 35 "VoiceHeaps$Kinds" "asked" "J", .constantLong RX6 45 (10), .methodLink RX6 7 yX6_span, .instanceMethod yX6_span, .selects RX6 yX6_span yX6_span, .initialized RX6, .code yX6_span cX6_span 3 (some .int), .methodLink RX6 47 yX2_middleOf, .instanceMethod yX2_middleOf, .selects RX2 yX2_middleOf yX2_middleOf, .initialized RX2, .code yX2_middleOf cX2_middleOf 3 (some .int), .fieldLink RX2 36 "VoiceHeaps$Cutting" "pieces" "I", .fieldLink RX2 21 "VoiceHeaps$Cutting" "middles" "[I"] ++ wsX60 ++ wsX20)
def wsX6_talk : List Cond := .code yX6_talk cX6_talk 3 (some .int) :: ([.fieldLink RX6 35 "VoiceHeaps$Kinds" "asked" "J", .constantLong RX6 51 (100), .methodLink RX6 13 yX6_voice, .instanceMethod yX6_voice, .selects RX6 yX6_voice yX6_voice, .initialized RX6, .code yX6_voice cX6_voice 3 (some .int), .constantLong RX6 45 (10), .methodLink RX6 7 yX6_span, .instanceMethod yX6_span, .selects RX6 yX6_span yX6_span, .code yX6_span cX6_span 3 (some .int), .methodLink RX6 47 yX2_middleOf, .instanceMethod yX2_middleOf, .selects RX2 yX2_middleOf yX2_middleOf, .initialized RX2, .code yX2_middleOf cX2_middleOf 3 (some .int), .fieldLink RX2 36 "VoiceHeaps$Cutting" "pieces" "I", .fieldLink RX2 21 "VoiceHeaps$Cutting" "middles" "[I"] ++ wsX60 ++ wsX20)
def wsX6_two : List Cond := .code yX6_two cX6_two 3 (some .int) :: ([.fieldLink RX6 35 "VoiceHeaps$Kinds" "asked" "J", .constantLong RX6 56 (1000), .methodLink RX6 16 yX6_talk, .instanceMethod yX6_talk, .selects RX6 yX6_talk yX6_talk, .initialized RX6, .code yX6_talk cX6_talk 3 (some .int), .constantLong RX6 51 (100), .methodLink RX6 13 yX6_voice, .instanceMethod yX6_voice, .selects RX6 yX6_voice yX6_voice, .code yX6_voice cX6_voice 3 (some .int), .constantLong RX6 45 (10), .methodLink RX6 7 yX6_span, .instanceMethod yX6_span, .selects RX6 yX6_span yX6_span, .code yX6_span cX6_span 3 (some .int), .methodLink RX6 47 yX2_middleOf, .instanceMethod yX2_middleOf, .selects RX2 yX2_middleOf yX2_middleOf, .initialized RX2, .code yX2_middleOf cX2_middleOf 3 (some .int), .fieldLink RX2 36 "VoiceHeaps$Cutting" "pieces" "I", .fieldLink RX2 21 "VoiceHeaps$Cutting" "middles" "[I"] ++ wsX60 ++ wsX20)
def wsX6_brief_r1 : List Cond := [Cond.fieldLink RX6 35 "VoiceHeaps$Kinds" "asked" "J", Cond.constantLong RX6 58 (10000), Cond.methodLink RX6 60 Lib.Math.max.name, Cond.static Lib.Math.max.name, Cond.initialized "java/lang/Math", Cond.code Lib.Math.max.name Lib.Math.max.code 2 (some .int), Cond.methodLink RX6 16 yX6_talk, Cond.instanceMethod yX6_talk, Cond.selects RX6 yX6_talk yX6_talk, Cond.initialized RX6, Cond.code yX6_talk cX6_talk 3 (some .int), Cond.constantLong RX6 51 (100), Cond.methodLink RX6 13 yX6_voice, Cond.instanceMethod yX6_voice, Cond.selects RX6 yX6_voice yX6_voice, Cond.code yX6_voice cX6_voice 3 (some .int), Cond.constantLong RX6 45 (10), Cond.methodLink RX6 7 yX6_span, Cond.instanceMethod yX6_span, Cond.selects RX6 yX6_span yX6_span, Cond.code yX6_span cX6_span 3 (some .int), Cond.methodLink RX6 47 yX2_middleOf, Cond.instanceMethod yX2_middleOf, Cond.selects RX2 yX2_middleOf yX2_middleOf]
def wsX6_brief_r2 : List Cond := [Cond.initialized RX2, Cond.code yX2_middleOf cX2_middleOf 3 (some .int), Cond.fieldLink RX2 36 "VoiceHeaps$Cutting" "pieces" "I", Cond.fieldLink RX2 21 "VoiceHeaps$Cutting" "middles" "[I"]
def wsX6_brief : List Cond := .code yX6_brief cX6_brief 3 (some .int) :: ((wsX6_brief_r1 ++ wsX6_brief_r2) ++ wsX60 ++ wsX20)
def wsX6_far : List Cond := .code yX6_far cX6_far 3 (some .int) :: ([.fieldLink RX6 35 "VoiceHeaps$Kinds" "asked" "J", .constantLong RX6 65 (100000), .methodLink RX6 13 yX6_voice, .instanceMethod yX6_voice, .selects RX6 yX6_voice yX6_voice, .initialized RX6, .code yX6_voice cX6_voice 3 (some .int), .constantLong RX6 45 (10), .methodLink RX6 7 yX6_span, .instanceMethod yX6_span, .selects RX6 yX6_span yX6_span, .code yX6_span cX6_span 3 (some .int), .methodLink RX6 47 yX2_middleOf, .instanceMethod yX2_middleOf, .selects RX2 yX2_middleOf yX2_middleOf, .initialized RX2, .code yX2_middleOf cX2_middleOf 3 (some .int), .fieldLink RX2 36 "VoiceHeaps$Cutting" "pieces" "I", .fieldLink RX2 21 "VoiceHeaps$Cutting" "middles" "[I"] ++ wsX60 ++ wsX20)
def wsX6_known : List Cond := .code yX6_known cX6_known 4 (some .int) :: ([.fieldLink RX6 35 "VoiceHeaps$Kinds" "asked" "J", .constantLong RX6 67 (1000000), .methodLink RX6 13 yX6_voice, .instanceMethod yX6_voice, .selects RX6 yX6_voice yX6_voice, .initialized RX6, .code yX6_voice cX6_voice 3 (some .int), .constantLong RX6 45 (10), .methodLink RX6 7 yX6_span, .instanceMethod yX6_span, .selects RX6 yX6_span yX6_span, .code yX6_span cX6_span 3 (some .int), .methodLink RX6 47 yX2_middleOf, .instanceMethod yX2_middleOf, .selects RX2 yX2_middleOf yX2_middleOf, .initialized RX2, .code yX2_middleOf cX2_middleOf 3 (some .int), .fieldLink RX2 36 "VoiceHeaps$Cutting" "pieces" "I", .fieldLink RX2 21 "VoiceHeaps$Cutting" "middles" "[I"] ++ wsX60 ++ wsX20)
def wsX6_noise : List Cond := .code yX6_noise cX6_noise 4 (some .int) :: ([.fieldLink RX6 35 "VoiceHeaps$Kinds" "asked" "J", .constantLong RX6 69 (10000000), .methodLink RX6 7 yX6_span, .instanceMethod yX6_span, .selects RX6 yX6_span yX6_span, .initialized RX6, .code yX6_span cX6_span 3 (some .int)] ++ wsX60 ++ wsX20)
def wsX6_weigh_r1 : List Cond := [Cond.methodLink RX6 7 yX6_span, Cond.instanceMethod yX6_span, Cond.selects RX6 yX6_span yX6_span, Cond.initialized RX6, Cond.code yX6_span cX6_span 3 (some .int), Cond.fieldLink RX6 35 "VoiceHeaps$Kinds" "asked" "J", Cond.methodLink RX6 13 yX6_voice, Cond.instanceMethod yX6_voice, Cond.selects RX6 yX6_voice yX6_voice, Cond.code yX6_voice cX6_voice 3 (some .int), Cond.constantLong RX6 45 (10), Cond.methodLink RX6 47 yX2_middleOf, Cond.instanceMethod yX2_middleOf, Cond.selects RX2 yX2_middleOf yX2_middleOf, Cond.initialized RX2, Cond.code yX2_middleOf cX2_middleOf 3 (some .int), Cond.fieldLink RX2 36 "VoiceHeaps$Cutting" "pieces" "I", Cond.fieldLink RX2 21 "VoiceHeaps$Cutting" "middles" "[I", Cond.methodLink RX6 16 yX6_talk, Cond.instanceMethod yX6_talk, Cond.selects RX6 yX6_talk yX6_talk, Cond.code yX6_talk cX6_talk 3 (some .int), Cond.constantLong RX6 51 (100), Cond.methodLink RX6 19 yX6_two]
def wsX6_weigh_r2 : List Cond := [Cond.instanceMethod yX6_two, Cond.selects RX6 yX6_two yX6_two, Cond.code yX6_two cX6_two 3 (some .int), Cond.constantLong RX6 56 (1000), Cond.methodLink RX6 22 yX6_brief, Cond.instanceMethod yX6_brief, Cond.selects RX6 yX6_brief yX6_brief, Cond.code yX6_brief cX6_brief 3 (some .int), Cond.constantLong RX6 58 (10000), Cond.methodLink RX6 60 Lib.Math.max.name, Cond.static Lib.Math.max.name, Cond.initialized "java/lang/Math", Cond.code Lib.Math.max.name Lib.Math.max.code 2 (some .int), Cond.methodLink RX6 25 yX6_far, Cond.instanceMethod yX6_far, Cond.selects RX6 yX6_far yX6_far, Cond.code yX6_far cX6_far 3 (some .int), Cond.constantLong RX6 65 (100000), Cond.methodLink RX6 28 yX6_known, Cond.instanceMethod yX6_known, Cond.selects RX6 yX6_known yX6_known, Cond.code yX6_known cX6_known 4 (some .int), Cond.constantLong RX6 67 (1000000), Cond.methodLink RX6 32 yX6_noise]
def wsX6_weigh_r3 : List Cond := [Cond.instanceMethod yX6_noise, Cond.selects RX6 yX6_noise yX6_noise, Cond.code yX6_noise cX6_noise 4 (some .int), Cond.constantLong RX6 69 (10000000)]
def wsX6_weigh : List Cond := .code yX6_weigh cX6_weigh 5 (some .int) :: ((wsX6_weigh_r1 ++ (wsX6_weigh_r2 ++ wsX6_weigh_r3)) ++ wsX60 ++ wsX20)
def wsX7_init : List Cond := .code yX7_init cX7_init 1 none :: ([.methodLink RX7 3 objectInit, .instanceMethod objectInit, .code objectInit ⟨#[0xb1]⟩ 1 none, .arrayClass .int, .fieldLink RX7 9 "VoiceHeaps$RowBook" "numbers" "[I", .arrayClass .boolean, .fieldLink RX7 15 "VoiceHeaps$RowBook" "isDeaf" "[Z", .fieldLink RX7 19 "VoiceHeaps$RowBook" "isOut" "[Z", .fieldLink RX7 22 "VoiceHeaps$RowBook" "truthOf" "[I"] ++ wsX70)
def wsX7_addDeaf : List Cond := .code yX7_addDeaf cX7_addDeaf 2 (some .int) :: ([.fieldLink RX7 29 "VoiceHeaps$RowBook" "rows" "I", .fieldLink RX7 15 "VoiceHeaps$RowBook" "isDeaf" "[Z", .fieldLink RX7 19 "VoiceHeaps$RowBook" "isOut" "[Z", .fieldLink RX7 22 "VoiceHeaps$RowBook" "truthOf" "[I"] ++ wsX70)
def wsX7_addRow : List Cond := .code yX7_addRow cX7_addRow 6 (some .int) :: ([.fieldLink RX7 15 "VoiceHeaps$RowBook" "isDeaf" "[Z", .fieldLink RX7 9 "VoiceHeaps$RowBook" "numbers" "[I", .methodLink RX7 25 yX7_addDeaf, .instanceMethod yX7_addDeaf, .selects RX7 yX7_addDeaf yX7_addDeaf, .initialized RX7, .code yX7_addDeaf cX7_addDeaf 2 (some .int), .fieldLink RX7 29 "VoiceHeaps$RowBook" "rows" "I", .fieldLink RX7 19 "VoiceHeaps$RowBook" "isOut" "[Z", .fieldLink RX7 22 "VoiceHeaps$RowBook" "truthOf" "[I"] ++ wsX70)
def wsX7_setOut : List Cond := .code yX7_setOut cX7_setOut 6 (some .int) :: ([.methodLink RX7 33 Lib.Math.max.name, .static Lib.Math.max.name, .initialized "java/lang/Math", .code Lib.Math.max.name Lib.Math.max.code 2 (some .int), .fieldLink RX7 29 "VoiceHeaps$RowBook" "rows" "I", .fieldLink RX7 19 "VoiceHeaps$RowBook" "isOut" "[Z"] ++ wsX70)
def wsX7_setTruth : List Cond := .code yX7_setTruth cX7_setTruth 6 (some .int) :: ([.methodLink RX7 33 Lib.Math.max.name, .static Lib.Math.max.name, .initialized "java/lang/Math", .code Lib.Math.max.name Lib.Math.max.code 2 (some .int), .fieldLink RX7 29 "VoiceHeaps$RowBook" "rows" "I", .fieldLink RX7 22 "VoiceHeaps$RowBook" "truthOf" "[I"] ++ wsX70)
def wsX7_deafRows : List Cond := .code yX7_deafRows cX7_deafRows 3 (some .int) :: ([.fieldLink RX7 29 "VoiceHeaps$RowBook" "rows" "I", .fieldLink RX7 15 "VoiceHeaps$RowBook" "isDeaf" "[Z"] ++ wsX70)
def wsX7_outRows : List Cond := .code yX7_outRows cX7_outRows 3 (some .int) :: ([.fieldLink RX7 29 "VoiceHeaps$RowBook" "rows" "I", .fieldLink RX7 19 "VoiceHeaps$RowBook" "isOut" "[Z"] ++ wsX70)
def wsX8_init : List Cond := .code yX8_init cX8_init 2 none :: ([.methodLink RX8 1 objectInit, .instanceMethod objectInit, .code objectInit ⟨#[0xb1]⟩ 1 none, .arrayClass .int, .fieldLink RX8 9 "VoiceHeaps$RuleText" "bytes" "[I", .fieldLink RX8 13 "VoiceHeaps$RuleText" "now" "[I", .fieldLink RX8 16 "VoiceHeaps$RuleText" "told" "[I", .fieldLink RX8 19 "VoiceHeaps$RuleText" "AT_FIRST" "[I"] ++ wsX80)
def wsX8_ruleNow : List Cond := .code yX8_ruleNow cX8_ruleNow 2 (some .int) :: ([.fieldLink RX8 13 "VoiceHeaps$RuleText" "now" "[I"] ++ wsX80)
def wsX8_append : List Cond := .code yX8_append cX8_append 5 (some .boolean) :: ([.fieldLink RX8 22 "VoiceHeaps$RuleText" "length" "I", .fieldLink RX8 9 "VoiceHeaps$RuleText" "bytes" "[I"] ++ wsX80)
def wsX8_endsBehindBlanks : List Cond := .code yX8_endsBehindBlanks cX8_endsBehindBlanks 1 (some .boolean) :: ([.fieldLink RX8 32 "VoiceHeaps$RuleText" "at" "I", .fieldLink RX8 22 "VoiceHeaps$RuleText" "length" "I", .fieldLink RX8 9 "VoiceHeaps$RuleText" "bytes" "[I"] ++ wsX80)
def wsX8_adopt : List Cond := .code yX8_adopt cX8_adopt 2 none :: ([.fieldLink RX8 13 "VoiceHeaps$RuleText" "now" "[I", .fieldLink RX8 16 "VoiceHeaps$RuleText" "told" "[I", .fieldLink RX8 19 "VoiceHeaps$RuleText" "AT_FIRST" "[I", .fieldLink RX8 22 "VoiceHeaps$RuleText" "length" "I"] ++ wsX80)
def wsX8_isLetter : List Cond := .code yX8_isLetter cX8_isLetter 1 (some .boolean) :: ([])
def wsX8_wordOf : List Cond := .code yX8_wordOf cX8_wordOf 1 (some (.object "java/lang/String")) :: ([])
def wsJ0_coder_7d493 : List Cond := .code yJ0_coder_7d493 cJ0_coder_7d493 1 (some .byte) :: ([.fieldLink RJ0 38 "java/lang/String" "COMPACT_STRINGS" "Z", .fieldLink RJ0 15 "java/lang/String" "coder" "B"])
def wsJ0_length_8abf5 : List Cond := .code yJ0_length_8abf5 cJ0_length_8abf5 1 (some .int) :: ([.fieldLink RJ0 9 "java/lang/String" "value" "[B", .methodLink RJ0 335 yJ0_coder_7d493, .instanceMethod yJ0_coder_7d493, .selects RJ0 yJ0_coder_7d493 yJ0_coder_7d493, .initialized RJ0, .code yJ0_coder_7d493 cJ0_coder_7d493 1 (some .byte), .fieldLink RJ0 38 "java/lang/String" "COMPACT_STRINGS" "Z", .fieldLink RJ0 15 "java/lang/String" "coder" "B"])
def wsJ0_isLatin1_aae02 : List Cond := .code yJ0_isLatin1_aae02 cJ0_isLatin1_aae02 1 (some .boolean) :: ([.fieldLink RJ0 38 "java/lang/String" "COMPACT_STRINGS" "Z", .fieldLink RJ0 15 "java/lang/String" "coder" "B"])
def wsJ3_checkIndex_8e157 : List Cond := .code yJ3_checkIndex_8e157 cJ3_checkIndex_8e157 3 (some .int) :: ([])
def wsJ0_checkIndex_df160 : List Cond := .code yJ0_checkIndex_df160 cJ0_checkIndex_df160 2 none :: ([.fieldLink RJ0 1053 "jdk/internal/util/Preconditions" "SIOOBE_FORMATTER" "Ljava/util/function/BiFunction;", .methodLink RJ0 1059 yJ3_checkIndex_8e157, .static yJ3_checkIndex_8e157, .initialized RJ3, .code yJ3_checkIndex_8e157 cJ3_checkIndex_8e157 3 (some .int)])
def wsJ1_charAt_3b067 : List Cond := .code yJ1_charAt_3b067 cJ1_charAt_3b067 2 (some .char) :: ([.methodLink RJ1 9 yJ0_checkIndex_df160, .static yJ0_checkIndex_df160, .initialized RJ0, .code yJ0_checkIndex_df160 cJ0_checkIndex_df160 2 none, .fieldLink RJ0 1053 "jdk/internal/util/Preconditions" "SIOOBE_FORMATTER" "Ljava/util/function/BiFunction;", .methodLink RJ0 1059 yJ3_checkIndex_8e157, .static yJ3_checkIndex_8e157, .initialized RJ3, .code yJ3_checkIndex_8e157 cJ3_checkIndex_8e157 3 (some .int)])
def wsJ2_length_9d52b : List Cond := .code yJ2_length_9d52b cJ2_length_9d52b 1 (some .int) :: ([])
def wsJ2_checkIndex_2214a : List Cond := .code yJ2_checkIndex_2214a cJ2_checkIndex_2214a 2 none :: ([.methodLink RJ2 48 yJ2_length_9d52b, .static yJ2_length_9d52b, .initialized RJ2, .code yJ2_length_9d52b cJ2_length_9d52b 1 (some .int), .methodLink RJ2 414 yJ0_checkIndex_df160, .static yJ0_checkIndex_df160, .initialized RJ0, .code yJ0_checkIndex_df160 cJ0_checkIndex_df160 2 none, .fieldLink RJ0 1053 "jdk/internal/util/Preconditions" "SIOOBE_FORMATTER" "Ljava/util/function/BiFunction;", .methodLink RJ0 1059 yJ3_checkIndex_8e157, .static yJ3_checkIndex_8e157, .initialized RJ3, .code yJ3_checkIndex_8e157 cJ3_checkIndex_8e157 3 (some .int)])
def wsJ2_getChar_3b067 : List Cond := .code yJ2_getChar_3b067 cJ2_getChar_3b067 2 (some .char) :: ([.fieldLink RJ2 44 "java/lang/StringUTF16" "$assertionsDisabled" "Z", .fieldLink RJ2 59 "java/lang/StringUTF16" "HI_BYTE_SHIFT" "I", .fieldLink RJ2 63 "java/lang/StringUTF16" "LO_BYTE_SHIFT" "I", .methodLink RJ2 48 yJ2_length_9d52b, .static yJ2_length_9d52b, .initialized RJ2, .code yJ2_length_9d52b cJ2_length_9d52b 1 (some .int)])
def wsJ2_charAt_3b067 : List Cond := .code yJ2_charAt_3b067 cJ2_charAt_3b067 2 (some .char) :: ([.methodLink RJ2 67 yJ2_checkIndex_2214a, .static yJ2_checkIndex_2214a, .initialized RJ2, .code yJ2_checkIndex_2214a cJ2_checkIndex_2214a 2 none, .methodLink RJ2 48 yJ2_length_9d52b, .static yJ2_length_9d52b, .code yJ2_length_9d52b cJ2_length_9d52b 1 (some .int), .methodLink RJ2 414 yJ0_checkIndex_df160, .static yJ0_checkIndex_df160, .initialized RJ0, .code yJ0_checkIndex_df160 cJ0_checkIndex_df160 2 none, .fieldLink RJ0 1053 "jdk/internal/util/Preconditions" "SIOOBE_FORMATTER" "Ljava/util/function/BiFunction;", .methodLink RJ0 1059 yJ3_checkIndex_8e157, .static yJ3_checkIndex_8e157, .initialized RJ3, .code yJ3_checkIndex_8e157 cJ3_checkIndex_8e157 3 (some .int), .methodLink RJ2 71 yJ2_getChar_3b067, .static yJ2_getChar_3b067, .code yJ2_getChar_3b067 cJ2_getChar_3b067 2 (some .char), .fieldLink RJ2 44 "java/lang/StringUTF16" "$assertionsDisabled" "Z", .fieldLink RJ2 59 "java/lang/StringUTF16" "HI_BYTE_SHIFT" "I", .fieldLink RJ2 63 "java/lang/StringUTF16" "LO_BYTE_SHIFT" "I"])
def wsJ0_charAt_5068e_r1 : List Cond := [Cond.fieldLink RJ0 9 "java/lang/String" "value" "[B", Cond.methodLink RJ0 492 yJ0_isLatin1_aae02, Cond.instanceMethod yJ0_isLatin1_aae02, Cond.selects RJ0 yJ0_isLatin1_aae02 yJ0_isLatin1_aae02, Cond.initialized RJ0, Cond.code yJ0_isLatin1_aae02 cJ0_isLatin1_aae02 1 (some .boolean), Cond.fieldLink RJ0 38 "java/lang/String" "COMPACT_STRINGS" "Z", Cond.fieldLink RJ0 15 "java/lang/String" "coder" "B", Cond.methodLink RJ0 495 yJ1_charAt_3b067, Cond.static yJ1_charAt_3b067, Cond.initialized RJ1, Cond.code yJ1_charAt_3b067 cJ1_charAt_3b067 2 (some .char), Cond.methodLink RJ1 9 yJ0_checkIndex_df160, Cond.static yJ0_checkIndex_df160, Cond.code yJ0_checkIndex_df160 cJ0_checkIndex_df160 2 none, Cond.fieldLink RJ0 1053 "jdk/internal/util/Preconditions" "SIOOBE_FORMATTER" "Ljava/util/function/BiFunction;", Cond.methodLink RJ0 1059 yJ3_checkIndex_8e157, Cond.static yJ3_checkIndex_8e157, Cond.initialized RJ3, Cond.code yJ3_checkIndex_8e157 cJ3_checkIndex_8e157 3 (some .int), Cond.methodLink RJ0 498 yJ2_charAt_3b067, Cond.static yJ2_charAt_3b067, Cond.initialized RJ2, Cond.code yJ2_charAt_3b067 cJ2_charAt_3b067 2 (some .char)]
def wsJ0_charAt_5068e_r2 : List Cond := [Cond.methodLink RJ2 67 yJ2_checkIndex_2214a, Cond.static yJ2_checkIndex_2214a, Cond.code yJ2_checkIndex_2214a cJ2_checkIndex_2214a 2 none, Cond.methodLink RJ2 48 yJ2_length_9d52b, Cond.static yJ2_length_9d52b, Cond.code yJ2_length_9d52b cJ2_length_9d52b 1 (some .int), Cond.methodLink RJ2 414 yJ0_checkIndex_df160, Cond.methodLink RJ2 71 yJ2_getChar_3b067, Cond.static yJ2_getChar_3b067, Cond.code yJ2_getChar_3b067 cJ2_getChar_3b067 2 (some .char), Cond.fieldLink RJ2 44 "java/lang/StringUTF16" "$assertionsDisabled" "Z", Cond.fieldLink RJ2 59 "java/lang/StringUTF16" "HI_BYTE_SHIFT" "I", Cond.fieldLink RJ2 63 "java/lang/StringUTF16" "LO_BYTE_SHIFT" "I"]
def wsJ0_charAt_5068e : List Cond := .code yJ0_charAt_5068e cJ0_charAt_5068e 2 (some .char) :: ((wsJ0_charAt_5068e_r1 ++ wsJ0_charAt_5068e_r2))
def wsX8_isWord_r1 : List Cond := [Cond.fieldLink RX8 9 "VoiceHeaps$RuleText" "bytes" "[I", Cond.methodLink RX8 76 yJ0_length_8abf5, Cond.instanceMethod yJ0_length_8abf5, Cond.selects RJ0 yJ0_length_8abf5 yJ0_length_8abf5, Cond.initialized RJ0, Cond.code yJ0_length_8abf5 cJ0_length_8abf5 1 (some .int), Cond.fieldLink RJ0 9 "java/lang/String" "value" "[B", Cond.methodLink RJ0 335 yJ0_coder_7d493, Cond.instanceMethod yJ0_coder_7d493, Cond.selects RJ0 yJ0_coder_7d493 yJ0_coder_7d493, Cond.code yJ0_coder_7d493 cJ0_coder_7d493 1 (some .byte), Cond.fieldLink RJ0 38 "java/lang/String" "COMPACT_STRINGS" "Z", Cond.fieldLink RJ0 15 "java/lang/String" "coder" "B", Cond.methodLink RX8 80 yJ0_charAt_5068e, Cond.instanceMethod yJ0_charAt_5068e, Cond.selects RJ0 yJ0_charAt_5068e yJ0_charAt_5068e, Cond.code yJ0_charAt_5068e cJ0_charAt_5068e 2 (some .char), Cond.methodLink RJ0 492 yJ0_isLatin1_aae02, Cond.instanceMethod yJ0_isLatin1_aae02, Cond.selects RJ0 yJ0_isLatin1_aae02 yJ0_isLatin1_aae02, Cond.code yJ0_isLatin1_aae02 cJ0_isLatin1_aae02 1 (some .boolean), Cond.methodLink RJ0 495 yJ1_charAt_3b067, Cond.static yJ1_charAt_3b067, Cond.initialized RJ1]
def wsX8_isWord_r2 : List Cond := [Cond.code yJ1_charAt_3b067 cJ1_charAt_3b067 2 (some .char), Cond.methodLink RJ1 9 yJ0_checkIndex_df160, Cond.static yJ0_checkIndex_df160, Cond.code yJ0_checkIndex_df160 cJ0_checkIndex_df160 2 none, Cond.fieldLink RJ0 1053 "jdk/internal/util/Preconditions" "SIOOBE_FORMATTER" "Ljava/util/function/BiFunction;", Cond.methodLink RJ0 1059 yJ3_checkIndex_8e157, Cond.static yJ3_checkIndex_8e157, Cond.initialized RJ3, Cond.code yJ3_checkIndex_8e157 cJ3_checkIndex_8e157 3 (some .int), Cond.methodLink RJ0 498 yJ2_charAt_3b067, Cond.static yJ2_charAt_3b067, Cond.initialized RJ2, Cond.code yJ2_charAt_3b067 cJ2_charAt_3b067 2 (some .char), Cond.methodLink RJ2 67 yJ2_checkIndex_2214a, Cond.static yJ2_checkIndex_2214a, Cond.code yJ2_checkIndex_2214a cJ2_checkIndex_2214a 2 none, Cond.methodLink RJ2 48 yJ2_length_9d52b, Cond.static yJ2_length_9d52b, Cond.code yJ2_length_9d52b cJ2_length_9d52b 1 (some .int), Cond.methodLink RJ2 414 yJ0_checkIndex_df160, Cond.methodLink RJ2 71 yJ2_getChar_3b067, Cond.static yJ2_getChar_3b067, Cond.code yJ2_getChar_3b067 cJ2_getChar_3b067 2 (some .char), Cond.fieldLink RJ2 44 "java/lang/StringUTF16" "$assertionsDisabled" "Z"]
def wsX8_isWord_r3 : List Cond := [Cond.fieldLink RJ2 59 "java/lang/StringUTF16" "HI_BYTE_SHIFT" "I", Cond.fieldLink RJ2 63 "java/lang/StringUTF16" "LO_BYTE_SHIFT" "I"]
def wsX8_isWord : List Cond := .code yX8_isWord cX8_isWord 5 (some .boolean) :: ((wsX8_isWord_r1 ++ (wsX8_isWord_r2 ++ wsX8_isWord_r3)) ++ wsX80)
def wsX8_readWord_r1 : List Cond := [Cond.fieldLink RX8 32 "VoiceHeaps$RuleText" "at" "I", Cond.fieldLink RX8 22 "VoiceHeaps$RuleText" "length" "I", Cond.fieldLink RX8 9 "VoiceHeaps$RuleText" "bytes" "[I", Cond.methodLink RX8 55 yX8_isLetter, Cond.static yX8_isLetter, Cond.initialized RX8, Cond.code yX8_isLetter cX8_isLetter 1 (some .boolean), Cond.methodLink RX8 59 yX8_wordOf, Cond.static yX8_wordOf, Cond.code yX8_wordOf cX8_wordOf 1 (some (.object "java/lang/String")), Cond.methodLink RX8 63 yX8_isWord, Cond.instanceMethod yX8_isWord, Cond.selects RX8 yX8_isWord yX8_isWord, Cond.code yX8_isWord cX8_isWord 5 (some .boolean), Cond.methodLink RX8 76 yJ0_length_8abf5, Cond.instanceMethod yJ0_length_8abf5, Cond.selects RJ0 yJ0_length_8abf5 yJ0_length_8abf5, Cond.initialized RJ0, Cond.code yJ0_length_8abf5 cJ0_length_8abf5 1 (some .int), Cond.fieldLink RJ0 9 "java/lang/String" "value" "[B", Cond.methodLink RJ0 335 yJ0_coder_7d493, Cond.instanceMethod yJ0_coder_7d493, Cond.selects RJ0 yJ0_coder_7d493 yJ0_coder_7d493, Cond.code yJ0_coder_7d493 cJ0_coder_7d493 1 (some .byte)]
def wsX8_readWord_r2 : List Cond := [Cond.fieldLink RJ0 38 "java/lang/String" "COMPACT_STRINGS" "Z", Cond.fieldLink RJ0 15 "java/lang/String" "coder" "B", Cond.methodLink RX8 80 yJ0_charAt_5068e, Cond.instanceMethod yJ0_charAt_5068e, Cond.selects RJ0 yJ0_charAt_5068e yJ0_charAt_5068e, Cond.code yJ0_charAt_5068e cJ0_charAt_5068e 2 (some .char), Cond.methodLink RJ0 492 yJ0_isLatin1_aae02, Cond.instanceMethod yJ0_isLatin1_aae02, Cond.selects RJ0 yJ0_isLatin1_aae02 yJ0_isLatin1_aae02, Cond.code yJ0_isLatin1_aae02 cJ0_isLatin1_aae02 1 (some .boolean), Cond.methodLink RJ0 495 yJ1_charAt_3b067, Cond.static yJ1_charAt_3b067, Cond.initialized RJ1, Cond.code yJ1_charAt_3b067 cJ1_charAt_3b067 2 (some .char), Cond.methodLink RJ1 9 yJ0_checkIndex_df160, Cond.static yJ0_checkIndex_df160, Cond.code yJ0_checkIndex_df160 cJ0_checkIndex_df160 2 none, Cond.fieldLink RJ0 1053 "jdk/internal/util/Preconditions" "SIOOBE_FORMATTER" "Ljava/util/function/BiFunction;", Cond.methodLink RJ0 1059 yJ3_checkIndex_8e157, Cond.static yJ3_checkIndex_8e157, Cond.initialized RJ3, Cond.code yJ3_checkIndex_8e157 cJ3_checkIndex_8e157 3 (some .int), Cond.methodLink RJ0 498 yJ2_charAt_3b067, Cond.static yJ2_charAt_3b067]
def wsX8_readWord_r3 : List Cond := [Cond.initialized RJ2, Cond.code yJ2_charAt_3b067 cJ2_charAt_3b067 2 (some .char), Cond.methodLink RJ2 67 yJ2_checkIndex_2214a, Cond.static yJ2_checkIndex_2214a, Cond.code yJ2_checkIndex_2214a cJ2_checkIndex_2214a 2 none, Cond.methodLink RJ2 48 yJ2_length_9d52b, Cond.static yJ2_length_9d52b, Cond.code yJ2_length_9d52b cJ2_length_9d52b 1 (some .int), Cond.methodLink RJ2 414 yJ0_checkIndex_df160, Cond.methodLink RJ2 71 yJ2_getChar_3b067, Cond.static yJ2_getChar_3b067, Cond.code yJ2_getChar_3b067 cJ2_getChar_3b067 2 (some .char), Cond.fieldLink RJ2 44 "java/lang/StringUTF16" "$assertionsDisabled" "Z", Cond.fieldLink RJ2 59 "java/lang/StringUTF16" "HI_BYTE_SHIFT" "I", Cond.fieldLink RJ2 63 "java/lang/StringUTF16" "LO_BYTE_SHIFT" "I"]
def wsX8_readWord : List Cond := .code yX8_readWord cX8_readWord 3 (some .int) :: ((wsX8_readWord_r1 ++ (wsX8_readWord_r2 ++ wsX8_readWord_r3)) ++ wsX80)
def wsX8_isDigit : List Cond := .code yX8_isDigit cX8_isDigit 1 (some .boolean) :: ([])
def wsX8_readNumber : List Cond := .code yX8_readNumber cX8_readNumber 4 (some .int) :: ([.fieldLink RX8 32 "VoiceHeaps$RuleText" "at" "I", .fieldLink RX8 22 "VoiceHeaps$RuleText" "length" "I", .fieldLink RX8 9 "VoiceHeaps$RuleText" "bytes" "[I", .methodLink RX8 70 Lib.Math.min.name, .static Lib.Math.min.name, .initialized "java/lang/Math", .code Lib.Math.min.name Lib.Math.min.code 2 (some .int), .methodLink RX8 67 yX8_isDigit, .static yX8_isDigit, .initialized RX8, .code yX8_isDigit cX8_isDigit 1 (some .boolean)] ++ wsX80)
def wsX8_readItem_r1 : List Cond := [Cond.fieldLink RX8 32 "VoiceHeaps$RuleText" "at" "I", Cond.fieldLink RX8 16 "VoiceHeaps$RuleText" "told" "[I", Cond.fieldLink RX8 22 "VoiceHeaps$RuleText" "length" "I", Cond.fieldLink RX8 52 "VoiceHeaps$RuleText" "MOST" "[I", Cond.fieldLink RX8 9 "VoiceHeaps$RuleText" "bytes" "[I", Cond.methodLink RX8 46 yX8_readWord, Cond.instanceMethod yX8_readWord, Cond.selects RX8 yX8_readWord yX8_readWord, Cond.initialized RX8, Cond.code yX8_readWord cX8_readWord 3 (some .int), Cond.methodLink RX8 55 yX8_isLetter, Cond.static yX8_isLetter, Cond.code yX8_isLetter cX8_isLetter 1 (some .boolean), Cond.methodLink RX8 59 yX8_wordOf, Cond.static yX8_wordOf, Cond.code yX8_wordOf cX8_wordOf 1 (some (.object "java/lang/String")), Cond.methodLink RX8 63 yX8_isWord, Cond.instanceMethod yX8_isWord, Cond.selects RX8 yX8_isWord yX8_isWord, Cond.code yX8_isWord cX8_isWord 5 (some .boolean), Cond.methodLink RX8 76 yJ0_length_8abf5, Cond.instanceMethod yJ0_length_8abf5, Cond.selects RJ0 yJ0_length_8abf5 yJ0_length_8abf5, Cond.initialized RJ0]
def wsX8_readItem_r2 : List Cond := [Cond.code yJ0_length_8abf5 cJ0_length_8abf5 1 (some .int), Cond.fieldLink RJ0 9 "java/lang/String" "value" "[B", Cond.methodLink RJ0 335 yJ0_coder_7d493, Cond.instanceMethod yJ0_coder_7d493, Cond.selects RJ0 yJ0_coder_7d493 yJ0_coder_7d493, Cond.code yJ0_coder_7d493 cJ0_coder_7d493 1 (some .byte), Cond.fieldLink RJ0 38 "java/lang/String" "COMPACT_STRINGS" "Z", Cond.fieldLink RJ0 15 "java/lang/String" "coder" "B", Cond.methodLink RX8 80 yJ0_charAt_5068e, Cond.instanceMethod yJ0_charAt_5068e, Cond.selects RJ0 yJ0_charAt_5068e yJ0_charAt_5068e, Cond.code yJ0_charAt_5068e cJ0_charAt_5068e 2 (some .char), Cond.methodLink RJ0 492 yJ0_isLatin1_aae02, Cond.instanceMethod yJ0_isLatin1_aae02, Cond.selects RJ0 yJ0_isLatin1_aae02 yJ0_isLatin1_aae02, Cond.code yJ0_isLatin1_aae02 cJ0_isLatin1_aae02 1 (some .boolean), Cond.methodLink RJ0 495 yJ1_charAt_3b067, Cond.static yJ1_charAt_3b067, Cond.initialized RJ1, Cond.code yJ1_charAt_3b067 cJ1_charAt_3b067 2 (some .char), Cond.methodLink RJ1 9 yJ0_checkIndex_df160, Cond.static yJ0_checkIndex_df160, Cond.code yJ0_checkIndex_df160 cJ0_checkIndex_df160 2 none, Cond.fieldLink RJ0 1053 "jdk/internal/util/Preconditions" "SIOOBE_FORMATTER" "Ljava/util/function/BiFunction;"]
def wsX8_readItem_r3 : List Cond := [Cond.methodLink RJ0 1059 yJ3_checkIndex_8e157, Cond.static yJ3_checkIndex_8e157, Cond.initialized RJ3, Cond.code yJ3_checkIndex_8e157 cJ3_checkIndex_8e157 3 (some .int), Cond.methodLink RJ0 498 yJ2_charAt_3b067, Cond.static yJ2_charAt_3b067, Cond.initialized RJ2, Cond.code yJ2_charAt_3b067 cJ2_charAt_3b067 2 (some .char), Cond.methodLink RJ2 67 yJ2_checkIndex_2214a, Cond.static yJ2_checkIndex_2214a, Cond.code yJ2_checkIndex_2214a cJ2_checkIndex_2214a 2 none, Cond.methodLink RJ2 48 yJ2_length_9d52b, Cond.static yJ2_length_9d52b, Cond.code yJ2_length_9d52b cJ2_length_9d52b 1 (some .int), Cond.methodLink RJ2 414 yJ0_checkIndex_df160, Cond.methodLink RJ2 71 yJ2_getChar_3b067, Cond.static yJ2_getChar_3b067, Cond.code yJ2_getChar_3b067 cJ2_getChar_3b067 2 (some .char), Cond.fieldLink RJ2 44 "java/lang/StringUTF16" "$assertionsDisabled" "Z", Cond.fieldLink RJ2 59 "java/lang/StringUTF16" "HI_BYTE_SHIFT" "I", Cond.fieldLink RJ2 63 "java/lang/StringUTF16" "LO_BYTE_SHIFT" "I", Cond.methodLink RX8 35 yX8_endsBehindBlanks, Cond.instanceMethod yX8_endsBehindBlanks, Cond.selects RX8 yX8_endsBehindBlanks yX8_endsBehindBlanks]
def wsX8_readItem_r4 : List Cond := [Cond.code yX8_endsBehindBlanks cX8_endsBehindBlanks 1 (some .boolean), Cond.methodLink RX8 49 yX8_readNumber, Cond.instanceMethod yX8_readNumber, Cond.selects RX8 yX8_readNumber yX8_readNumber, Cond.code yX8_readNumber cX8_readNumber 4 (some .int), Cond.methodLink RX8 70 Lib.Math.min.name, Cond.static Lib.Math.min.name, Cond.initialized "java/lang/Math", Cond.code Lib.Math.min.name Lib.Math.min.code 2 (some .int), Cond.methodLink RX8 67 yX8_isDigit, Cond.static yX8_isDigit, Cond.code yX8_isDigit cX8_isDigit 1 (some .boolean)]
def wsX8_readItem : List Cond := .code yX8_readItem cX8_readItem 4 (some .int) :: ((wsX8_readItem_r1 ++ (wsX8_readItem_r2 ++ (wsX8_readItem_r3 ++ wsX8_readItem_r4))) ++ wsX80)
def wsX8_read_r1 : List Cond := [Cond.fieldLink RX8 16 "VoiceHeaps$RuleText" "told" "[I", Cond.fieldLink RX8 32 "VoiceHeaps$RuleText" "at" "I", Cond.methodLink RX8 26 yJ7_fill_53178, Cond.static yJ7_fill_53178, Cond.initialized RJ7, Cond.code yJ7_fill_53178 cJ7_fill_53178 4 none, Cond.methodLink RX8 35 yX8_endsBehindBlanks, Cond.instanceMethod yX8_endsBehindBlanks, Cond.selects RX8 yX8_endsBehindBlanks yX8_endsBehindBlanks, Cond.initialized RX8, Cond.code yX8_endsBehindBlanks cX8_endsBehindBlanks 1 (some .boolean), Cond.fieldLink RX8 22 "VoiceHeaps$RuleText" "length" "I", Cond.fieldLink RX8 9 "VoiceHeaps$RuleText" "bytes" "[I", Cond.methodLink RX8 39 yX8_adopt, Cond.instanceMethod yX8_adopt, Cond.selects RX8 yX8_adopt yX8_adopt, Cond.code yX8_adopt cX8_adopt 2 none, Cond.fieldLink RX8 13 "VoiceHeaps$RuleText" "now" "[I", Cond.fieldLink RX8 19 "VoiceHeaps$RuleText" "AT_FIRST" "[I", Cond.methodLink RX8 42 yX8_readItem, Cond.instanceMethod yX8_readItem, Cond.selects RX8 yX8_readItem yX8_readItem, Cond.code yX8_readItem cX8_readItem 4 (some .int), Cond.fieldLink RX8 52 "VoiceHeaps$RuleText" "MOST" "[I"]
def wsX8_read_r2 : List Cond := [Cond.methodLink RX8 46 yX8_readWord, Cond.instanceMethod yX8_readWord, Cond.selects RX8 yX8_readWord yX8_readWord, Cond.code yX8_readWord cX8_readWord 3 (some .int), Cond.methodLink RX8 55 yX8_isLetter, Cond.static yX8_isLetter, Cond.code yX8_isLetter cX8_isLetter 1 (some .boolean), Cond.methodLink RX8 59 yX8_wordOf, Cond.static yX8_wordOf, Cond.code yX8_wordOf cX8_wordOf 1 (some (.object "java/lang/String")), Cond.methodLink RX8 63 yX8_isWord, Cond.instanceMethod yX8_isWord, Cond.selects RX8 yX8_isWord yX8_isWord, Cond.code yX8_isWord cX8_isWord 5 (some .boolean), Cond.methodLink RX8 76 yJ0_length_8abf5, Cond.instanceMethod yJ0_length_8abf5, Cond.selects RJ0 yJ0_length_8abf5 yJ0_length_8abf5, Cond.initialized RJ0, Cond.code yJ0_length_8abf5 cJ0_length_8abf5 1 (some .int), Cond.fieldLink RJ0 9 "java/lang/String" "value" "[B", Cond.methodLink RJ0 335 yJ0_coder_7d493, Cond.instanceMethod yJ0_coder_7d493, Cond.selects RJ0 yJ0_coder_7d493 yJ0_coder_7d493, Cond.code yJ0_coder_7d493 cJ0_coder_7d493 1 (some .byte)]
def wsX8_read_r3 : List Cond := [Cond.fieldLink RJ0 38 "java/lang/String" "COMPACT_STRINGS" "Z", Cond.fieldLink RJ0 15 "java/lang/String" "coder" "B", Cond.methodLink RX8 80 yJ0_charAt_5068e, Cond.instanceMethod yJ0_charAt_5068e, Cond.selects RJ0 yJ0_charAt_5068e yJ0_charAt_5068e, Cond.code yJ0_charAt_5068e cJ0_charAt_5068e 2 (some .char), Cond.methodLink RJ0 492 yJ0_isLatin1_aae02, Cond.instanceMethod yJ0_isLatin1_aae02, Cond.selects RJ0 yJ0_isLatin1_aae02 yJ0_isLatin1_aae02, Cond.code yJ0_isLatin1_aae02 cJ0_isLatin1_aae02 1 (some .boolean), Cond.methodLink RJ0 495 yJ1_charAt_3b067, Cond.static yJ1_charAt_3b067, Cond.initialized RJ1, Cond.code yJ1_charAt_3b067 cJ1_charAt_3b067 2 (some .char), Cond.methodLink RJ1 9 yJ0_checkIndex_df160, Cond.static yJ0_checkIndex_df160, Cond.code yJ0_checkIndex_df160 cJ0_checkIndex_df160 2 none, Cond.fieldLink RJ0 1053 "jdk/internal/util/Preconditions" "SIOOBE_FORMATTER" "Ljava/util/function/BiFunction;", Cond.methodLink RJ0 1059 yJ3_checkIndex_8e157, Cond.static yJ3_checkIndex_8e157, Cond.initialized RJ3, Cond.code yJ3_checkIndex_8e157 cJ3_checkIndex_8e157 3 (some .int), Cond.methodLink RJ0 498 yJ2_charAt_3b067, Cond.static yJ2_charAt_3b067]
def wsX8_read_r4 : List Cond := [Cond.initialized RJ2, Cond.code yJ2_charAt_3b067 cJ2_charAt_3b067 2 (some .char), Cond.methodLink RJ2 67 yJ2_checkIndex_2214a, Cond.static yJ2_checkIndex_2214a, Cond.code yJ2_checkIndex_2214a cJ2_checkIndex_2214a 2 none, Cond.methodLink RJ2 48 yJ2_length_9d52b, Cond.static yJ2_length_9d52b, Cond.code yJ2_length_9d52b cJ2_length_9d52b 1 (some .int), Cond.methodLink RJ2 414 yJ0_checkIndex_df160, Cond.methodLink RJ2 71 yJ2_getChar_3b067, Cond.static yJ2_getChar_3b067, Cond.code yJ2_getChar_3b067 cJ2_getChar_3b067 2 (some .char), Cond.fieldLink RJ2 44 "java/lang/StringUTF16" "$assertionsDisabled" "Z", Cond.fieldLink RJ2 59 "java/lang/StringUTF16" "HI_BYTE_SHIFT" "I", Cond.fieldLink RJ2 63 "java/lang/StringUTF16" "LO_BYTE_SHIFT" "I", Cond.methodLink RX8 49 yX8_readNumber, Cond.instanceMethod yX8_readNumber, Cond.selects RX8 yX8_readNumber yX8_readNumber, Cond.code yX8_readNumber cX8_readNumber 4 (some .int), Cond.methodLink RX8 70 Lib.Math.min.name, Cond.static Lib.Math.min.name, Cond.initialized "java/lang/Math", Cond.code Lib.Math.min.name Lib.Math.min.code 2 (some .int), Cond.methodLink RX8 67 yX8_isDigit]
def wsX8_read_r5 : List Cond := [Cond.static yX8_isDigit, Cond.code yX8_isDigit cX8_isDigit 1 (some .boolean)]
def wsX8_read : List Cond := .code yX8_read cX8_read 3 (some .int) :: ((wsX8_read_r1 ++ (wsX8_read_r2 ++ (wsX8_read_r3 ++ (wsX8_read_r4 ++ wsX8_read_r5)))) ++ wsX80)
def wsX9_init : List Cond := .code yX9_init cX9_init 1 none :: ([.methodLink RX9 3 objectInit, .instanceMethod objectInit, .code objectInit ⟨#[0xb1]⟩ 1 none, .classLink RX9 11 "[[I", .arrayClass .int, .fieldLink RX9 13 "VoiceHeaps$Verdict" "together" "[[I", .fieldLink RX9 16 "VoiceHeaps$Verdict" "right" "[I"] ++ wsX90)
def wsX9_missed : List Cond := .code yX9_missed cX9_missed 5 (some .int) :: ([] ++ wsX70 ++ wsX20)
def wsX9_madeUp : List Cond := .code yX9_madeUp cX9_madeUp 5 (some .int) :: ([] ++ wsX70 ++ wsX20)
def wsX9_countTogether : List Cond := .code yX9_countTogether cX9_countTogether 8 (some .int) :: ([.fieldLink RX9 13 "VoiceHeaps$Verdict" "together" "[[I", .methodLink RX9 38 yJ7_fill_53178, .static yJ7_fill_53178, .initialized RJ7, .code yJ7_fill_53178 cJ7_fill_53178 4 none] ++ wsX90 ++ wsX70 ++ wsX20 ++ wsX40)
def wsX9_giveOne : List Cond := .code yX9_giveOne cX9_giveOne 5 none :: ([.fieldLink RX9 16 "VoiceHeaps$Verdict" "right" "[I", .methodLink RX9 53 Lib.Math.max.name, .static Lib.Math.max.name, .initialized "java/lang/Math", .code Lib.Math.max.name Lib.Math.max.code 2 (some .int)] ++ wsX90)
def wsX9_wrong : List Cond := .code yX9_wrong cX9_wrong 7 (some .int) :: ([.fieldLink RX9 16 "VoiceHeaps$Verdict" "right" "[I", .fieldLink RX9 13 "VoiceHeaps$Verdict" "together" "[[I", .methodLink RX9 34 yX9_countTogether, .instanceMethod yX9_countTogether, .selects RX9 yX9_countTogether yX9_countTogether, .initialized RX9, .code yX9_countTogether cX9_countTogether 8 (some .int), .methodLink RX9 38 yJ7_fill_53178, .static yJ7_fill_53178, .initialized RJ7, .code yJ7_fill_53178 cJ7_fill_53178 4 none, .methodLink RX9 49 yX9_giveOne, .instanceMethod yX9_giveOne, .selects RX9 yX9_giveOne yX9_giveOne, .code yX9_giveOne cX9_giveOne 5 none, .methodLink RX9 53 Lib.Math.max.name, .static Lib.Math.max.name, .initialized "java/lang/Math", .code Lib.Math.max.name Lib.Math.max.code 2 (some .int)] ++ wsX90 ++ wsX40 ++ wsX70 ++ wsX20)
def wsX10_init : List Cond := .code yX10_init cX10_init 1 none :: ([.methodLink RX10 3 objectInit, .instanceMethod objectInit, .code objectInit ⟨#[0xb1]⟩ 1 none, .arrayClass .int, .fieldLink RX10 11 "VoiceHeaps$WordBook" "from" "[I", .fieldLink RX10 15 "VoiceHeaps$WordBook" "to" "[I"] ++ wsX100)
def wsX10_add : List Cond := .code yX10_add cX10_add 3 (some .int) :: ([.fieldLink RX10 18 "VoiceHeaps$WordBook" "words" "I", .fieldLink RX10 11 "VoiceHeaps$WordBook" "from" "[I", .fieldLink RX10 15 "VoiceHeaps$WordBook" "to" "[I"] ++ wsX100)
def wsX10_sharedRows : List Cond := .code yX10_sharedRows cX10_sharedRows 6 (some .int) :: ([.fieldLink RX10 11 "VoiceHeaps$WordBook" "from" "[I", .methodLink RX10 34 Lib.Math.max.name, .static Lib.Math.max.name, .initialized "java/lang/Math", .code Lib.Math.max.name Lib.Math.max.code 2 (some .int), .fieldLink RX10 15 "VoiceHeaps$WordBook" "to" "[I", .methodLink RX10 43 Lib.Math.min.name, .static Lib.Math.min.name, .code Lib.Math.min.name Lib.Math.min.code 2 (some .int)] ++ wsX100 ++ wsX20)
def wsX10_pieceWithMost : List Cond := .code yX10_pieceWithMost cX10_pieceWithMost 7 (some .int) :: ([.methodLink RX10 27 yX10_sharedRows, .instanceMethod yX10_sharedRows, .selects RX10 yX10_sharedRows yX10_sharedRows, .initialized RX10, .code yX10_sharedRows cX10_sharedRows 6 (some .int), .fieldLink RX10 11 "VoiceHeaps$WordBook" "from" "[I", .methodLink RX10 34 Lib.Math.max.name, .static Lib.Math.max.name, .initialized "java/lang/Math", .code Lib.Math.max.name Lib.Math.max.code 2 (some .int), .fieldLink RX10 15 "VoiceHeaps$WordBook" "to" "[I", .methodLink RX10 43 Lib.Math.min.name, .static Lib.Math.min.name, .code Lib.Math.min.name Lib.Math.min.code 2 (some .int)] ++ wsX20 ++ wsX100)
def wsX10_piecesWithSome : List Cond := .code yX10_piecesWithSome cX10_piecesWithSome 5 (some .int) :: ([.methodLink RX10 27 yX10_sharedRows, .instanceMethod yX10_sharedRows, .selects RX10 yX10_sharedRows yX10_sharedRows, .initialized RX10, .code yX10_sharedRows cX10_sharedRows 6 (some .int), .fieldLink RX10 11 "VoiceHeaps$WordBook" "from" "[I", .methodLink RX10 34 Lib.Math.max.name, .static Lib.Math.max.name, .initialized "java/lang/Math", .code Lib.Math.max.name Lib.Math.max.code 2 (some .int), .fieldLink RX10 15 "VoiceHeaps$WordBook" "to" "[I", .methodLink RX10 43 Lib.Math.min.name, .static Lib.Math.min.name, .code Lib.Math.min.name Lib.Math.min.code 2 (some .int)] ++ wsX20 ++ wsX100)
def wsX11_init_r1 : List Cond := [Cond.methodLink RX11 1 objectInit, Cond.instanceMethod objectInit, Cond.code objectInit ⟨#[0xb1]⟩ 1 none, Cond.classLink RX11 7 RX8, Cond.instantiable RX8 5, Cond.initialized RX8, Cond.fieldLink RX11 10 "VoiceHeaps" "ruleText" "LVoiceHeaps$RuleText;", Cond.classLink RX11 16 RX7, Cond.instantiable RX7 5, Cond.initialized RX7, Cond.fieldLink RX11 19 "VoiceHeaps" "book" "LVoiceHeaps$RowBook;", Cond.classLink RX11 23 RX3, Cond.instantiable RX3 3, Cond.initialized RX3, Cond.fieldLink RX11 26 "VoiceHeaps" "gathering" "LVoiceHeaps$Gathering;", Cond.classLink RX11 30 RX2, Cond.instantiable RX2 12, Cond.initialized RX2, Cond.fieldLink RX11 33 "VoiceHeaps" "cutting" "LVoiceHeaps$Cutting;", Cond.classLink RX11 37 RX1, Cond.instantiable RX1 4, Cond.initialized RX1, Cond.fieldLink RX11 40 "VoiceHeaps" "bonds" "LVoiceHeaps$Bonds;", Cond.classLink RX11 44 RX0]
def wsX11_init_r2 : List Cond := [Cond.instantiable RX0 10, Cond.initialized RX0, Cond.fieldLink RX11 47 "VoiceHeaps" "all" "LVoiceHeaps$AllHeapings;", Cond.classLink RX11 51 RX4, Cond.instantiable RX4 5, Cond.initialized RX4, Cond.fieldLink RX11 54 "VoiceHeaps" "joined" "LVoiceHeaps$Heaping;", Cond.classLink RX11 58 RX5, Cond.instantiable RX5 4, Cond.initialized RX5, Cond.fieldLink RX11 61 "VoiceHeaps" "kept" "LVoiceHeaps$KeptVoices;", Cond.classLink RX11 65 RX10, Cond.instantiable RX10 3, Cond.initialized RX10, Cond.fieldLink RX11 68 "VoiceHeaps" "wordBook" "LVoiceHeaps$WordBook;", Cond.classLink RX11 72 RX9, Cond.instantiable RX9 2, Cond.initialized RX9, Cond.fieldLink RX11 75 "VoiceHeaps" "verdict" "LVoiceHeaps$Verdict;", Cond.classLink RX11 79 RX6, Cond.instantiable RX6 1, Cond.initialized RX6, Cond.fieldLink RX11 82 "VoiceHeaps" "kinds" "LVoiceHeaps$Kinds;", Cond.arrayClass .int]
def wsX11_init_r3 : List Cond := [Cond.fieldLink RX11 86 "VoiceHeaps" "shownHeap" "[I", Cond.fieldLink RX11 90 "VoiceHeaps" "shownRows" "I", Cond.fieldLink RX11 94 "VoiceHeaps" "cutIsOld" "Z", Cond.fieldLink RX11 98 "VoiceHeaps" "heapsAreOld" "Z", Cond.fieldLink RX11 101 "VoiceHeaps" "nearIsOld" "Z", Cond.methodLink RX11 9 yX8_init, Cond.instanceMethod yX8_init, Cond.code yX8_init cX8_init 2 none, Cond.methodLink RX8 1 objectInit, Cond.fieldLink RX8 9 "VoiceHeaps$RuleText" "bytes" "[I", Cond.fieldLink RX8 13 "VoiceHeaps$RuleText" "now" "[I", Cond.fieldLink RX8 16 "VoiceHeaps$RuleText" "told" "[I", Cond.fieldLink RX8 19 "VoiceHeaps$RuleText" "AT_FIRST" "[I", Cond.instanceMethod yX7_init, Cond.code yX7_init cX7_init 1 none, Cond.methodLink RX7 3 objectInit, Cond.fieldLink RX7 9 "VoiceHeaps$RowBook" "numbers" "[I", Cond.arrayClass .boolean, Cond.fieldLink RX7 15 "VoiceHeaps$RowBook" "isDeaf" "[Z", Cond.fieldLink RX7 19 "VoiceHeaps$RowBook" "isOut" "[Z", Cond.fieldLink RX7 22 "VoiceHeaps$RowBook" "truthOf" "[I", Cond.instanceMethod yX3_init, Cond.code yX3_init cX3_init 1 none, Cond.methodLink RX3 3 objectInit]
def wsX11_init_r4 : List Cond := [Cond.classLink RX3 9 "[[I", Cond.fieldLink RX3 11 "VoiceHeaps$Gathering" "sorted" "[[I", Cond.instanceMethod yX2_init, Cond.code yX2_init cX2_init 1 none, Cond.methodLink RX2 3 objectInit, Cond.fieldLink RX2 9 "VoiceHeaps$Cutting" "first" "[I", Cond.fieldLink RX2 15 "VoiceHeaps$Cutting" "size" "[I", Cond.fieldLink RX2 18 "VoiceHeaps$Cutting" "spread" "[I", Cond.fieldLink RX2 21 "VoiceHeaps$Cutting" "middles" "[I", Cond.fieldLink RX2 24 "VoiceHeaps$Cutting" "stretchOf" "[I", Cond.fieldLink RX2 27 "VoiceHeaps$Cutting" "pieceOf" "[I", Cond.fieldLink RX2 30 "VoiceHeaps$Cutting" "cost" "[I", Cond.fieldLink RX2 33 "VoiceHeaps$Cutting" "most" "[I", Cond.instanceMethod yX1_init, Cond.code yX1_init cX1_init 1 none, Cond.methodLink RX1 3 objectInit, Cond.classLink RX1 9 "[[I", Cond.fieldLink RX1 11 "VoiceHeaps$Bonds" "bond" "[[I", Cond.fieldLink RX1 16 "VoiceHeaps$Bonds" "link" "[[I", Cond.fieldLink RX1 19 "VoiceHeaps$Bonds" "gain" "[I", Cond.instanceMethod yX0_init, Cond.code yX0_init cX0_init 1 none, Cond.methodLink RX0 3 objectInit, Cond.classLink RX0 9 RX4]
def wsX11_init_r5 : List Cond := [Cond.fieldLink RX0 12 "VoiceHeaps$AllHeapings" "best" "LVoiceHeaps$Heaping;", Cond.fieldLink RX0 18 "VoiceHeaps$AllHeapings" "heapOf" "[I", Cond.fieldLink RX0 22 "VoiceHeaps$AllHeapings" "members" "[I", Cond.instanceMethod yX4_init, Cond.code yX4_init cX4_init 1 none, Cond.methodLink RX4 3 objectInit, Cond.fieldLink RX4 9 "VoiceHeaps$Heaping" "heapOf" "[I", Cond.fieldLink RX4 15 "VoiceHeaps$Heaping" "renamed" "[I", Cond.fieldLink RX4 18 "VoiceHeaps$Heaping" "middles" "[I", Cond.instanceMethod yX5_init, Cond.code yX5_init cX5_init 1 none, Cond.methodLink RX5 3 objectInit, Cond.fieldLink RX5 11 "VoiceHeaps$KeptVoices" "names" "[I", Cond.fieldLink RX5 15 "VoiceHeaps$KeptVoices" "middles" "[I", Cond.fieldLink RX5 18 "VoiceHeaps$KeptVoices" "offs" "[I", Cond.instanceMethod yX10_init, Cond.code yX10_init cX10_init 1 none, Cond.methodLink RX10 3 objectInit, Cond.fieldLink RX10 11 "VoiceHeaps$WordBook" "from" "[I", Cond.fieldLink RX10 15 "VoiceHeaps$WordBook" "to" "[I", Cond.instanceMethod yX9_init, Cond.code yX9_init cX9_init 1 none, Cond.methodLink RX9 3 objectInit, Cond.classLink RX9 11 "[[I"]
def wsX11_init_r6 : List Cond := [Cond.fieldLink RX9 13 "VoiceHeaps$Verdict" "together" "[[I", Cond.fieldLink RX9 16 "VoiceHeaps$Verdict" "right" "[I", Cond.instanceMethod yX6_init, Cond.code yX6_init cX6_init 1 none, Cond.methodLink RX6 1 objectInit]
def wsX11_init : List Cond := .code yX11_init cX11_init 1 none :: ((wsX11_init_r1 ++ (wsX11_init_r2 ++ (wsX11_init_r3 ++ (wsX11_init_r4 ++ (wsX11_init_r5 ++ wsX11_init_r6))))) ++ wsX80 ++ wsX110 ++ wsX70 ++ wsX30 ++ wsX20 ++ wsX10 ++ wsX00 ++ wsX40 ++ wsX50 ++ wsX100 ++ wsX90 ++ wsX60)
def wsX11_within : List Cond := .code yX11_within cX11_within 3 (some .boolean) :: ([])
def wsX11_type : List Cond := .code yX11_type cX11_type 4 (some .int) :: ([.fieldLink RX11 10 "VoiceHeaps" "ruleText" "LVoiceHeaps$RuleText;", .methodLink RX11 104 yX11_within, .static yX11_within, .initialized RX11, .code yX11_within cX11_within 3 (some .boolean), .methodLink RX11 108 yX8_append, .instanceMethod yX8_append, .selects RX8 yX8_append yX8_append, .initialized RX8, .code yX8_append cX8_append 5 (some .boolean), .fieldLink RX8 22 "VoiceHeaps$RuleText" "length" "I", .fieldLink RX8 9 "VoiceHeaps$RuleText" "bytes" "[I"] ++ wsX110 ++ wsX80)
def wsX11_clear : List Cond := .code yX11_clear cX11_clear 2 (some .int) :: ([.fieldLink RX11 10 "VoiceHeaps" "ruleText" "LVoiceHeaps$RuleText;"] ++ wsX110 ++ wsX80)
def wsX11_nothingIsFound : List Cond := .code yX11_nothingIsFound cX11_nothingIsFound 1 none :: ([.fieldLink RX11 94 "VoiceHeaps" "cutIsOld" "Z", .fieldLink RX11 98 "VoiceHeaps" "heapsAreOld" "Z", .fieldLink RX11 101 "VoiceHeaps" "nearIsOld" "Z"] ++ wsX110)
def wsX11_rules_r1 : List Cond := [Cond.fieldLink RX11 10 "VoiceHeaps" "ruleText" "LVoiceHeaps$RuleText;", Cond.methodLink RX11 115 yX8_read, Cond.instanceMethod yX8_read, Cond.selects RX8 yX8_read yX8_read, Cond.initialized RX8, Cond.code yX8_read cX8_read 3 (some .int), Cond.fieldLink RX8 16 "VoiceHeaps$RuleText" "told" "[I", Cond.fieldLink RX8 32 "VoiceHeaps$RuleText" "at" "I", Cond.methodLink RX8 26 yJ7_fill_53178, Cond.static yJ7_fill_53178, Cond.initialized RJ7, Cond.code yJ7_fill_53178 cJ7_fill_53178 4 none, Cond.methodLink RX8 35 yX8_endsBehindBlanks, Cond.instanceMethod yX8_endsBehindBlanks, Cond.selects RX8 yX8_endsBehindBlanks yX8_endsBehindBlanks, Cond.code yX8_endsBehindBlanks cX8_endsBehindBlanks 1 (some .boolean), Cond.fieldLink RX8 22 "VoiceHeaps$RuleText" "length" "I", Cond.fieldLink RX8 9 "VoiceHeaps$RuleText" "bytes" "[I", Cond.methodLink RX8 39 yX8_adopt, Cond.instanceMethod yX8_adopt, Cond.selects RX8 yX8_adopt yX8_adopt, Cond.code yX8_adopt cX8_adopt 2 none, Cond.fieldLink RX8 13 "VoiceHeaps$RuleText" "now" "[I", Cond.fieldLink RX8 19 "VoiceHeaps$RuleText" "AT_FIRST" "[I"]
def wsX11_rules_r2 : List Cond := [Cond.methodLink RX8 42 yX8_readItem, Cond.instanceMethod yX8_readItem, Cond.selects RX8 yX8_readItem yX8_readItem, Cond.code yX8_readItem cX8_readItem 4 (some .int), Cond.fieldLink RX8 52 "VoiceHeaps$RuleText" "MOST" "[I", Cond.methodLink RX8 46 yX8_readWord, Cond.instanceMethod yX8_readWord, Cond.selects RX8 yX8_readWord yX8_readWord, Cond.code yX8_readWord cX8_readWord 3 (some .int), Cond.methodLink RX8 55 yX8_isLetter, Cond.static yX8_isLetter, Cond.code yX8_isLetter cX8_isLetter 1 (some .boolean), Cond.methodLink RX8 59 yX8_wordOf, Cond.static yX8_wordOf, Cond.code yX8_wordOf cX8_wordOf 1 (some (.object "java/lang/String")), Cond.methodLink RX8 63 yX8_isWord, Cond.instanceMethod yX8_isWord, Cond.selects RX8 yX8_isWord yX8_isWord, Cond.code yX8_isWord cX8_isWord 5 (some .boolean), Cond.methodLink RX8 76 yJ0_length_8abf5, Cond.instanceMethod yJ0_length_8abf5, Cond.selects RJ0 yJ0_length_8abf5 yJ0_length_8abf5, Cond.initialized RJ0, Cond.code yJ0_length_8abf5 cJ0_length_8abf5 1 (some .int)]
def wsX11_rules_r3 : List Cond := [Cond.fieldLink RJ0 9 "java/lang/String" "value" "[B", Cond.methodLink RJ0 335 yJ0_coder_7d493, Cond.instanceMethod yJ0_coder_7d493, Cond.selects RJ0 yJ0_coder_7d493 yJ0_coder_7d493, Cond.code yJ0_coder_7d493 cJ0_coder_7d493 1 (some .byte), Cond.fieldLink RJ0 38 "java/lang/String" "COMPACT_STRINGS" "Z", Cond.fieldLink RJ0 15 "java/lang/String" "coder" "B", Cond.methodLink RX8 80 yJ0_charAt_5068e, Cond.instanceMethod yJ0_charAt_5068e, Cond.selects RJ0 yJ0_charAt_5068e yJ0_charAt_5068e, Cond.code yJ0_charAt_5068e cJ0_charAt_5068e 2 (some .char), Cond.methodLink RJ0 492 yJ0_isLatin1_aae02, Cond.instanceMethod yJ0_isLatin1_aae02, Cond.selects RJ0 yJ0_isLatin1_aae02 yJ0_isLatin1_aae02, Cond.code yJ0_isLatin1_aae02 cJ0_isLatin1_aae02 1 (some .boolean), Cond.methodLink RJ0 495 yJ1_charAt_3b067, Cond.static yJ1_charAt_3b067, Cond.initialized RJ1, Cond.code yJ1_charAt_3b067 cJ1_charAt_3b067 2 (some .char), Cond.methodLink RJ1 9 yJ0_checkIndex_df160, Cond.static yJ0_checkIndex_df160, Cond.code yJ0_checkIndex_df160 cJ0_checkIndex_df160 2 none, Cond.fieldLink RJ0 1053 "jdk/internal/util/Preconditions" "SIOOBE_FORMATTER" "Ljava/util/function/BiFunction;", Cond.methodLink RJ0 1059 yJ3_checkIndex_8e157]
def wsX11_rules_r4 : List Cond := [Cond.static yJ3_checkIndex_8e157, Cond.initialized RJ3, Cond.code yJ3_checkIndex_8e157 cJ3_checkIndex_8e157 3 (some .int), Cond.methodLink RJ0 498 yJ2_charAt_3b067, Cond.static yJ2_charAt_3b067, Cond.initialized RJ2, Cond.code yJ2_charAt_3b067 cJ2_charAt_3b067 2 (some .char), Cond.methodLink RJ2 67 yJ2_checkIndex_2214a, Cond.static yJ2_checkIndex_2214a, Cond.code yJ2_checkIndex_2214a cJ2_checkIndex_2214a 2 none, Cond.methodLink RJ2 48 yJ2_length_9d52b, Cond.static yJ2_length_9d52b, Cond.code yJ2_length_9d52b cJ2_length_9d52b 1 (some .int), Cond.methodLink RJ2 414 yJ0_checkIndex_df160, Cond.methodLink RJ2 71 yJ2_getChar_3b067, Cond.static yJ2_getChar_3b067, Cond.code yJ2_getChar_3b067 cJ2_getChar_3b067 2 (some .char), Cond.fieldLink RJ2 44 "java/lang/StringUTF16" "$assertionsDisabled" "Z", Cond.fieldLink RJ2 59 "java/lang/StringUTF16" "HI_BYTE_SHIFT" "I", Cond.fieldLink RJ2 63 "java/lang/StringUTF16" "LO_BYTE_SHIFT" "I", Cond.methodLink RX8 49 yX8_readNumber, Cond.instanceMethod yX8_readNumber, Cond.selects RX8 yX8_readNumber yX8_readNumber, Cond.code yX8_readNumber cX8_readNumber 4 (some .int)]
def wsX11_rules_r5 : List Cond := [Cond.methodLink RX8 70 Lib.Math.min.name, Cond.static Lib.Math.min.name, Cond.initialized "java/lang/Math", Cond.code Lib.Math.min.name Lib.Math.min.code 2 (some .int), Cond.methodLink RX8 67 yX8_isDigit, Cond.static yX8_isDigit, Cond.code yX8_isDigit cX8_isDigit 1 (some .boolean), Cond.methodLink RX11 119 yX11_nothingIsFound, Cond.instanceMethod yX11_nothingIsFound, Cond.selects RX11 yX11_nothingIsFound yX11_nothingIsFound, Cond.initialized RX11, Cond.code yX11_nothingIsFound cX11_nothingIsFound 1 none, Cond.fieldLink RX11 94 "VoiceHeaps" "cutIsOld" "Z", Cond.fieldLink RX11 98 "VoiceHeaps" "heapsAreOld" "Z", Cond.fieldLink RX11 101 "VoiceHeaps" "nearIsOld" "Z"]
def wsX11_rules : List Cond := .code yX11_rules cX11_rules 2 (some .int) :: ((wsX11_rules_r1 ++ (wsX11_rules_r2 ++ (wsX11_rules_r3 ++ (wsX11_rules_r4 ++ wsX11_rules_r5)))) ++ wsX110 ++ wsX80)
def wsX11_rule : List Cond := .code yX11_rule cX11_rule 2 (some .int) :: ([.fieldLink RX11 10 "VoiceHeaps" "ruleText" "LVoiceHeaps$RuleText;", .methodLink RX11 104 yX11_within, .static yX11_within, .initialized RX11, .code yX11_within cX11_within 3 (some .boolean), .methodLink RX11 122 yX8_ruleNow, .instanceMethod yX8_ruleNow, .selects RX8 yX8_ruleNow yX8_ruleNow, .initialized RX8, .code yX8_ruleNow cX8_ruleNow 2 (some .int), .fieldLink RX8 13 "VoiceHeaps$RuleText" "now" "[I"] ++ wsX110 ++ wsX80)
def wsX11_isLoudness : List Cond := .code yX11_isLoudness cX11_isLoudness 1 (some .boolean) :: ([.methodLink RX11 104 yX11_within, .static yX11_within, .initialized RX11, .code yX11_within cX11_within 3 (some .boolean)])
def wsX11_row_r1 : List Cond := [Cond.fieldLink RX11 19 "VoiceHeaps" "book" "LVoiceHeaps$RowBook;", Cond.methodLink RX11 126 yX11_isLoudness, Cond.static yX11_isLoudness, Cond.initialized RX11, Cond.code yX11_isLoudness cX11_isLoudness 1 (some .boolean), Cond.methodLink RX11 104 yX11_within, Cond.static yX11_within, Cond.code yX11_within cX11_within 3 (some .boolean), Cond.methodLink RX11 119 yX11_nothingIsFound, Cond.instanceMethod yX11_nothingIsFound, Cond.selects RX11 yX11_nothingIsFound yX11_nothingIsFound, Cond.code yX11_nothingIsFound cX11_nothingIsFound 1 none, Cond.fieldLink RX11 94 "VoiceHeaps" "cutIsOld" "Z", Cond.fieldLink RX11 98 "VoiceHeaps" "heapsAreOld" "Z", Cond.fieldLink RX11 101 "VoiceHeaps" "nearIsOld" "Z", Cond.methodLink RX11 133 yX7_addRow, Cond.instanceMethod yX7_addRow, Cond.selects RX7 yX7_addRow yX7_addRow, Cond.initialized RX7, Cond.code yX7_addRow cX7_addRow 6 (some .int), Cond.fieldLink RX7 15 "VoiceHeaps$RowBook" "isDeaf" "[Z", Cond.fieldLink RX7 9 "VoiceHeaps$RowBook" "numbers" "[I", Cond.methodLink RX7 25 yX7_addDeaf, Cond.instanceMethod yX7_addDeaf]
def wsX11_row_r2 : List Cond := [Cond.selects RX7 yX7_addDeaf yX7_addDeaf, Cond.code yX7_addDeaf cX7_addDeaf 2 (some .int), Cond.fieldLink RX7 29 "VoiceHeaps$RowBook" "rows" "I", Cond.fieldLink RX7 19 "VoiceHeaps$RowBook" "isOut" "[Z", Cond.fieldLink RX7 22 "VoiceHeaps$RowBook" "truthOf" "[I"]
def wsX11_row : List Cond := .code yX11_row cX11_row 5 (some .int) :: ((wsX11_row_r1 ++ wsX11_row_r2) ++ wsX110 ++ wsX70)
def wsX11_deaf : List Cond := .code yX11_deaf cX11_deaf 3 (some .int) :: ([.fieldLink RX11 19 "VoiceHeaps" "book" "LVoiceHeaps$RowBook;", .methodLink RX11 104 yX11_within, .static yX11_within, .initialized RX11, .code yX11_within cX11_within 3 (some .boolean), .methodLink RX11 119 yX11_nothingIsFound, .instanceMethod yX11_nothingIsFound, .selects RX11 yX11_nothingIsFound yX11_nothingIsFound, .code yX11_nothingIsFound cX11_nothingIsFound 1 none, .fieldLink RX11 94 "VoiceHeaps" "cutIsOld" "Z", .fieldLink RX11 98 "VoiceHeaps" "heapsAreOld" "Z", .fieldLink RX11 101 "VoiceHeaps" "nearIsOld" "Z", .methodLink RX11 137 yX7_addDeaf, .instanceMethod yX7_addDeaf, .selects RX7 yX7_addDeaf yX7_addDeaf, .initialized RX7, .code yX7_addDeaf cX7_addDeaf 2 (some .int), .fieldLink RX7 29 "VoiceHeaps$RowBook" "rows" "I", .fieldLink RX7 15 "VoiceHeaps$RowBook" "isDeaf" "[Z", .fieldLink RX7 19 "VoiceHeaps$RowBook" "isOut" "[Z", .fieldLink RX7 22 "VoiceHeaps$RowBook" "truthOf" "[I"] ++ wsX110 ++ wsX70)
def wsX11_areRows : List Cond := .code yX11_areRows cX11_areRows 3 (some .boolean) :: ([.fieldLink RX11 19 "VoiceHeaps" "book" "LVoiceHeaps$RowBook;"] ++ wsX110 ++ wsX70)
def wsX11_out_r1 : List Cond := [Cond.fieldLink RX11 19 "VoiceHeaps" "book" "LVoiceHeaps$RowBook;", Cond.methodLink RX11 140 yX11_areRows, Cond.instanceMethod yX11_areRows, Cond.selects RX11 yX11_areRows yX11_areRows, Cond.initialized RX11, Cond.code yX11_areRows cX11_areRows 3 (some .boolean), Cond.methodLink RX11 104 yX11_within, Cond.static yX11_within, Cond.code yX11_within cX11_within 3 (some .boolean), Cond.methodLink RX11 144 yX7_setOut, Cond.instanceMethod yX7_setOut, Cond.selects RX7 yX7_setOut yX7_setOut, Cond.initialized RX7, Cond.code yX7_setOut cX7_setOut 6 (some .int), Cond.methodLink RX7 33 Lib.Math.max.name, Cond.static Lib.Math.max.name, Cond.initialized "java/lang/Math", Cond.code Lib.Math.max.name Lib.Math.max.code 2 (some .int), Cond.fieldLink RX7 29 "VoiceHeaps$RowBook" "rows" "I", Cond.fieldLink RX7 19 "VoiceHeaps$RowBook" "isOut" "[Z", Cond.methodLink RX11 119 yX11_nothingIsFound, Cond.instanceMethod yX11_nothingIsFound, Cond.selects RX11 yX11_nothingIsFound yX11_nothingIsFound, Cond.code yX11_nothingIsFound cX11_nothingIsFound 1 none]
def wsX11_out_r2 : List Cond := [Cond.fieldLink RX11 94 "VoiceHeaps" "cutIsOld" "Z", Cond.fieldLink RX11 98 "VoiceHeaps" "heapsAreOld" "Z", Cond.fieldLink RX11 101 "VoiceHeaps" "nearIsOld" "Z"]
def wsX11_out : List Cond := .code yX11_out cX11_out 5 (some .int) :: ((wsX11_out_r1 ++ wsX11_out_r2) ++ wsX110 ++ wsX70)
def wsX11_hush : List Cond := .code yX11_hush cX11_hush 2 (some .int) :: ([.fieldLink RX11 19 "VoiceHeaps" "book" "LVoiceHeaps$RowBook;", .fieldLink RX11 68 "VoiceHeaps" "wordBook" "LVoiceHeaps$WordBook;", .fieldLink RX11 90 "VoiceHeaps" "shownRows" "I", .methodLink RX11 119 yX11_nothingIsFound, .instanceMethod yX11_nothingIsFound, .selects RX11 yX11_nothingIsFound yX11_nothingIsFound, .initialized RX11, .code yX11_nothingIsFound cX11_nothingIsFound 1 none, .fieldLink RX11 94 "VoiceHeaps" "cutIsOld" "Z", .fieldLink RX11 98 "VoiceHeaps" "heapsAreOld" "Z", .fieldLink RX11 101 "VoiceHeaps" "nearIsOld" "Z"] ++ wsX110 ++ wsX70 ++ wsX100)
def wsX11_cutNow_r1 : List Cond := [Cond.fieldLink RX11 94 "VoiceHeaps" "cutIsOld" "Z", Cond.fieldLink RX11 33 "VoiceHeaps" "cutting" "LVoiceHeaps$Cutting;", Cond.fieldLink RX11 19 "VoiceHeaps" "book" "LVoiceHeaps$RowBook;", Cond.fieldLink RX11 26 "VoiceHeaps" "gathering" "LVoiceHeaps$Gathering;", Cond.fieldLink RX11 10 "VoiceHeaps" "ruleText" "LVoiceHeaps$RuleText;", Cond.methodLink RX11 122 yX8_ruleNow, Cond.instanceMethod yX8_ruleNow, Cond.selects RX8 yX8_ruleNow yX8_ruleNow, Cond.initialized RX8, Cond.code yX8_ruleNow cX8_ruleNow 2 (some .int), Cond.fieldLink RX8 13 "VoiceHeaps$RuleText" "now" "[I", Cond.methodLink RX11 302 yX2_cut, Cond.instanceMethod yX2_cut, Cond.selects RX2 yX2_cut yX2_cut, Cond.initialized RX2, Cond.code yX2_cut cX2_cut 7 none, Cond.fieldLink RX2 36 "VoiceHeaps$Cutting" "pieces" "I", Cond.fieldLink RX2 40 "VoiceHeaps$Cutting" "stretches" "I", Cond.fieldLink RX2 43 "VoiceHeaps$Cutting" "total" "I", Cond.fieldLink RX2 46 "VoiceHeaps$Cutting" "heardRows" "I", Cond.fieldLink RX2 27 "VoiceHeaps$Cutting" "pieceOf" "[I", Cond.fieldLink RX2 30 "VoiceHeaps$Cutting" "cost" "[I", Cond.methodLink RX2 49 yJ7_fill_53178, Cond.static yJ7_fill_53178]
def wsX11_cutNow_r2 : List Cond := [Cond.initialized RJ7, Cond.code yJ7_fill_53178 cJ7_fill_53178 4 none, Cond.methodLink RX2 60 yX7_isHeard, Cond.instanceMethod yX7_isHeard, Cond.selects RX7 yX7_isHeard yX7_isHeard, Cond.initialized RX7, Cond.code yX7_isHeard cX7_isHeard 5 (some .boolean), Cond.fieldLink RX7 15 "VoiceHeaps$RowBook" "isDeaf" "[Z", Cond.fieldLink RX7 19 "VoiceHeaps$RowBook" "isOut" "[Z", Cond.fieldLink RX7 9 "VoiceHeaps$RowBook" "numbers" "[I", Cond.methodLink RX2 64 yX2_findCosts, Cond.instanceMethod yX2_findCosts, Cond.selects RX2 yX2_findCosts yX2_findCosts, Cond.code yX2_findCosts cX2_findCosts 9 none, Cond.constant RX2 77 (1000000000), Cond.fieldLink RX2 33 "VoiceHeaps$Cutting" "most" "[I", Cond.methodLink RX2 72 yX3_empty, Cond.instanceMethod yX3_empty, Cond.selects RX3 yX3_empty yX3_empty, Cond.initialized RX3, Cond.code yX3_empty cX3_empty 1 none, Cond.fieldLink RX3 16 "VoiceHeaps$Gathering" "rows" "I", Cond.fieldLink RX3 20 "VoiceHeaps$Gathering" "spread" "I", Cond.methodLink RX2 78 yX3_take]
def wsX11_cutNow_r3 : List Cond := [Cond.instanceMethod yX3_take, Cond.selects RX3 yX3_take yX3_take, Cond.code yX3_take cX3_take 7 none, Cond.fieldLink RX3 11 "VoiceHeaps$Gathering" "sorted" "[[I", Cond.methodLink RX3 29 Lib.Math.max.name, Cond.static Lib.Math.max.name, Cond.initialized "java/lang/Math", Cond.code Lib.Math.max.name Lib.Math.max.code 2 (some .int), Cond.methodLink RX2 68 yX2_addPieces, Cond.instanceMethod yX2_addPieces, Cond.selects RX2 yX2_addPieces yX2_addPieces, Cond.code yX2_addPieces cX2_addPieces 8 none, Cond.methodLink RX2 84 Lib.Math.max.name, Cond.methodLink RX2 90 Lib.Math.min.name, Cond.static Lib.Math.min.name, Cond.code Lib.Math.min.name Lib.Math.min.code 2 (some .int), Cond.fieldLink RX2 9 "VoiceHeaps$Cutting" "first" "[I", Cond.fieldLink RX2 15 "VoiceHeaps$Cutting" "size" "[I", Cond.fieldLink RX2 18 "VoiceHeaps$Cutting" "spread" "[I", Cond.fieldLink RX2 24 "VoiceHeaps$Cutting" "stretchOf" "[I", Cond.fieldLink RX2 21 "VoiceHeaps$Cutting" "middles" "[I", Cond.methodLink RX2 93 yX3_writeMiddle, Cond.instanceMethod yX3_writeMiddle, Cond.selects RX3 yX3_writeMiddle yX3_writeMiddle]
def wsX11_cutNow_r4 : List Cond := [Cond.code yX3_writeMiddle cX3_writeMiddle 4 none]
def wsX11_cutNow : List Cond := .code yX11_cutNow cX11_cutNow 1 none :: ((wsX11_cutNow_r1 ++ (wsX11_cutNow_r2 ++ (wsX11_cutNow_r3 ++ wsX11_cutNow_r4))) ++ wsX110 ++ wsX80 ++ wsX20 ++ wsX70 ++ wsX30)
def wsX11_pieces_r1 : List Cond := [Cond.fieldLink RX11 33 "VoiceHeaps" "cutting" "LVoiceHeaps$Cutting;", Cond.methodLink RX11 151 yX11_cutNow, Cond.instanceMethod yX11_cutNow, Cond.selects RX11 yX11_cutNow yX11_cutNow, Cond.initialized RX11, Cond.code yX11_cutNow cX11_cutNow 1 none, Cond.fieldLink RX11 94 "VoiceHeaps" "cutIsOld" "Z", Cond.fieldLink RX11 19 "VoiceHeaps" "book" "LVoiceHeaps$RowBook;", Cond.fieldLink RX11 26 "VoiceHeaps" "gathering" "LVoiceHeaps$Gathering;", Cond.fieldLink RX11 10 "VoiceHeaps" "ruleText" "LVoiceHeaps$RuleText;", Cond.methodLink RX11 122 yX8_ruleNow, Cond.instanceMethod yX8_ruleNow, Cond.selects RX8 yX8_ruleNow yX8_ruleNow, Cond.initialized RX8, Cond.code yX8_ruleNow cX8_ruleNow 2 (some .int), Cond.fieldLink RX8 13 "VoiceHeaps$RuleText" "now" "[I", Cond.methodLink RX11 302 yX2_cut, Cond.instanceMethod yX2_cut, Cond.selects RX2 yX2_cut yX2_cut, Cond.initialized RX2, Cond.code yX2_cut cX2_cut 7 none, Cond.fieldLink RX2 36 "VoiceHeaps$Cutting" "pieces" "I", Cond.fieldLink RX2 40 "VoiceHeaps$Cutting" "stretches" "I", Cond.fieldLink RX2 43 "VoiceHeaps$Cutting" "total" "I"]
def wsX11_pieces_r2 : List Cond := [Cond.fieldLink RX2 46 "VoiceHeaps$Cutting" "heardRows" "I", Cond.fieldLink RX2 27 "VoiceHeaps$Cutting" "pieceOf" "[I", Cond.fieldLink RX2 30 "VoiceHeaps$Cutting" "cost" "[I", Cond.methodLink RX2 49 yJ7_fill_53178, Cond.static yJ7_fill_53178, Cond.initialized RJ7, Cond.code yJ7_fill_53178 cJ7_fill_53178 4 none, Cond.methodLink RX2 60 yX7_isHeard, Cond.instanceMethod yX7_isHeard, Cond.selects RX7 yX7_isHeard yX7_isHeard, Cond.initialized RX7, Cond.code yX7_isHeard cX7_isHeard 5 (some .boolean), Cond.fieldLink RX7 15 "VoiceHeaps$RowBook" "isDeaf" "[Z", Cond.fieldLink RX7 19 "VoiceHeaps$RowBook" "isOut" "[Z", Cond.fieldLink RX7 9 "VoiceHeaps$RowBook" "numbers" "[I", Cond.methodLink RX2 64 yX2_findCosts, Cond.instanceMethod yX2_findCosts, Cond.selects RX2 yX2_findCosts yX2_findCosts, Cond.code yX2_findCosts cX2_findCosts 9 none, Cond.constant RX2 77 (1000000000), Cond.fieldLink RX2 33 "VoiceHeaps$Cutting" "most" "[I", Cond.methodLink RX2 72 yX3_empty, Cond.instanceMethod yX3_empty, Cond.selects RX3 yX3_empty yX3_empty]
def wsX11_pieces_r3 : List Cond := [Cond.initialized RX3, Cond.code yX3_empty cX3_empty 1 none, Cond.fieldLink RX3 16 "VoiceHeaps$Gathering" "rows" "I", Cond.fieldLink RX3 20 "VoiceHeaps$Gathering" "spread" "I", Cond.methodLink RX2 78 yX3_take, Cond.instanceMethod yX3_take, Cond.selects RX3 yX3_take yX3_take, Cond.code yX3_take cX3_take 7 none, Cond.fieldLink RX3 11 "VoiceHeaps$Gathering" "sorted" "[[I", Cond.methodLink RX3 29 Lib.Math.max.name, Cond.static Lib.Math.max.name, Cond.initialized "java/lang/Math", Cond.code Lib.Math.max.name Lib.Math.max.code 2 (some .int), Cond.methodLink RX2 68 yX2_addPieces, Cond.instanceMethod yX2_addPieces, Cond.selects RX2 yX2_addPieces yX2_addPieces, Cond.code yX2_addPieces cX2_addPieces 8 none, Cond.methodLink RX2 84 Lib.Math.max.name, Cond.methodLink RX2 90 Lib.Math.min.name, Cond.static Lib.Math.min.name, Cond.code Lib.Math.min.name Lib.Math.min.code 2 (some .int), Cond.fieldLink RX2 9 "VoiceHeaps$Cutting" "first" "[I", Cond.fieldLink RX2 15 "VoiceHeaps$Cutting" "size" "[I", Cond.fieldLink RX2 18 "VoiceHeaps$Cutting" "spread" "[I"]
def wsX11_pieces_r4 : List Cond := [Cond.fieldLink RX2 24 "VoiceHeaps$Cutting" "stretchOf" "[I", Cond.fieldLink RX2 21 "VoiceHeaps$Cutting" "middles" "[I", Cond.methodLink RX2 93 yX3_writeMiddle, Cond.instanceMethod yX3_writeMiddle, Cond.selects RX3 yX3_writeMiddle yX3_writeMiddle, Cond.code yX3_writeMiddle cX3_writeMiddle 4 none]
def wsX11_pieces : List Cond := .code yX11_pieces cX11_pieces 2 (some .int) :: ((wsX11_pieces_r1 ++ (wsX11_pieces_r2 ++ (wsX11_pieces_r3 ++ wsX11_pieces_r4))) ++ wsX110 ++ wsX20 ++ wsX80 ++ wsX70 ++ wsX30)
def wsX11_isPiece_r1 : List Cond := [Cond.fieldLink RX11 33 "VoiceHeaps" "cutting" "LVoiceHeaps$Cutting;", Cond.methodLink RX11 151 yX11_cutNow, Cond.instanceMethod yX11_cutNow, Cond.selects RX11 yX11_cutNow yX11_cutNow, Cond.initialized RX11, Cond.code yX11_cutNow cX11_cutNow 1 none, Cond.fieldLink RX11 94 "VoiceHeaps" "cutIsOld" "Z", Cond.fieldLink RX11 19 "VoiceHeaps" "book" "LVoiceHeaps$RowBook;", Cond.fieldLink RX11 26 "VoiceHeaps" "gathering" "LVoiceHeaps$Gathering;", Cond.fieldLink RX11 10 "VoiceHeaps" "ruleText" "LVoiceHeaps$RuleText;", Cond.methodLink RX11 122 yX8_ruleNow, Cond.instanceMethod yX8_ruleNow, Cond.selects RX8 yX8_ruleNow yX8_ruleNow, Cond.initialized RX8, Cond.code yX8_ruleNow cX8_ruleNow 2 (some .int), Cond.fieldLink RX8 13 "VoiceHeaps$RuleText" "now" "[I", Cond.methodLink RX11 302 yX2_cut, Cond.instanceMethod yX2_cut, Cond.selects RX2 yX2_cut yX2_cut, Cond.initialized RX2, Cond.code yX2_cut cX2_cut 7 none, Cond.fieldLink RX2 36 "VoiceHeaps$Cutting" "pieces" "I", Cond.fieldLink RX2 40 "VoiceHeaps$Cutting" "stretches" "I", Cond.fieldLink RX2 43 "VoiceHeaps$Cutting" "total" "I"]
def wsX11_isPiece_r2 : List Cond := [Cond.fieldLink RX2 46 "VoiceHeaps$Cutting" "heardRows" "I", Cond.fieldLink RX2 27 "VoiceHeaps$Cutting" "pieceOf" "[I", Cond.fieldLink RX2 30 "VoiceHeaps$Cutting" "cost" "[I", Cond.methodLink RX2 49 yJ7_fill_53178, Cond.static yJ7_fill_53178, Cond.initialized RJ7, Cond.code yJ7_fill_53178 cJ7_fill_53178 4 none, Cond.methodLink RX2 60 yX7_isHeard, Cond.instanceMethod yX7_isHeard, Cond.selects RX7 yX7_isHeard yX7_isHeard, Cond.initialized RX7, Cond.code yX7_isHeard cX7_isHeard 5 (some .boolean), Cond.fieldLink RX7 15 "VoiceHeaps$RowBook" "isDeaf" "[Z", Cond.fieldLink RX7 19 "VoiceHeaps$RowBook" "isOut" "[Z", Cond.fieldLink RX7 9 "VoiceHeaps$RowBook" "numbers" "[I", Cond.methodLink RX2 64 yX2_findCosts, Cond.instanceMethod yX2_findCosts, Cond.selects RX2 yX2_findCosts yX2_findCosts, Cond.code yX2_findCosts cX2_findCosts 9 none, Cond.constant RX2 77 (1000000000), Cond.fieldLink RX2 33 "VoiceHeaps$Cutting" "most" "[I", Cond.methodLink RX2 72 yX3_empty, Cond.instanceMethod yX3_empty, Cond.selects RX3 yX3_empty yX3_empty]
def wsX11_isPiece_r3 : List Cond := [Cond.initialized RX3, Cond.code yX3_empty cX3_empty 1 none, Cond.fieldLink RX3 16 "VoiceHeaps$Gathering" "rows" "I", Cond.fieldLink RX3 20 "VoiceHeaps$Gathering" "spread" "I", Cond.methodLink RX2 78 yX3_take, Cond.instanceMethod yX3_take, Cond.selects RX3 yX3_take yX3_take, Cond.code yX3_take cX3_take 7 none, Cond.fieldLink RX3 11 "VoiceHeaps$Gathering" "sorted" "[[I", Cond.methodLink RX3 29 Lib.Math.max.name, Cond.static Lib.Math.max.name, Cond.initialized "java/lang/Math", Cond.code Lib.Math.max.name Lib.Math.max.code 2 (some .int), Cond.methodLink RX2 68 yX2_addPieces, Cond.instanceMethod yX2_addPieces, Cond.selects RX2 yX2_addPieces yX2_addPieces, Cond.code yX2_addPieces cX2_addPieces 8 none, Cond.methodLink RX2 84 Lib.Math.max.name, Cond.methodLink RX2 90 Lib.Math.min.name, Cond.static Lib.Math.min.name, Cond.code Lib.Math.min.name Lib.Math.min.code 2 (some .int), Cond.fieldLink RX2 9 "VoiceHeaps$Cutting" "first" "[I", Cond.fieldLink RX2 15 "VoiceHeaps$Cutting" "size" "[I", Cond.fieldLink RX2 18 "VoiceHeaps$Cutting" "spread" "[I"]
def wsX11_isPiece_r4 : List Cond := [Cond.fieldLink RX2 24 "VoiceHeaps$Cutting" "stretchOf" "[I", Cond.fieldLink RX2 21 "VoiceHeaps$Cutting" "middles" "[I", Cond.methodLink RX2 93 yX3_writeMiddle, Cond.instanceMethod yX3_writeMiddle, Cond.selects RX3 yX3_writeMiddle yX3_writeMiddle, Cond.code yX3_writeMiddle cX3_writeMiddle 4 none, Cond.methodLink RX11 104 yX11_within, Cond.static yX11_within, Cond.code yX11_within cX11_within 3 (some .boolean)]
def wsX11_isPiece : List Cond := .code yX11_isPiece cX11_isPiece 2 (some .boolean) :: ((wsX11_isPiece_r1 ++ (wsX11_isPiece_r2 ++ (wsX11_isPiece_r3 ++ wsX11_isPiece_r4))) ++ wsX110 ++ wsX20 ++ wsX80 ++ wsX70 ++ wsX30)
def wsX11_piece_r1 : List Cond := [Cond.fieldLink RX11 33 "VoiceHeaps" "cutting" "LVoiceHeaps$Cutting;", Cond.methodLink RX11 166 yX11_isPiece, Cond.instanceMethod yX11_isPiece, Cond.selects RX11 yX11_isPiece yX11_isPiece, Cond.initialized RX11, Cond.code yX11_isPiece cX11_isPiece 2 (some .boolean), Cond.methodLink RX11 151 yX11_cutNow, Cond.instanceMethod yX11_cutNow, Cond.selects RX11 yX11_cutNow yX11_cutNow, Cond.code yX11_cutNow cX11_cutNow 1 none, Cond.fieldLink RX11 94 "VoiceHeaps" "cutIsOld" "Z", Cond.fieldLink RX11 19 "VoiceHeaps" "book" "LVoiceHeaps$RowBook;", Cond.fieldLink RX11 26 "VoiceHeaps" "gathering" "LVoiceHeaps$Gathering;", Cond.fieldLink RX11 10 "VoiceHeaps" "ruleText" "LVoiceHeaps$RuleText;", Cond.methodLink RX11 122 yX8_ruleNow, Cond.instanceMethod yX8_ruleNow, Cond.selects RX8 yX8_ruleNow yX8_ruleNow, Cond.initialized RX8, Cond.code yX8_ruleNow cX8_ruleNow 2 (some .int), Cond.fieldLink RX8 13 "VoiceHeaps$RuleText" "now" "[I", Cond.methodLink RX11 302 yX2_cut, Cond.instanceMethod yX2_cut, Cond.selects RX2 yX2_cut yX2_cut, Cond.initialized RX2]
def wsX11_piece_r2 : List Cond := [Cond.code yX2_cut cX2_cut 7 none, Cond.fieldLink RX2 36 "VoiceHeaps$Cutting" "pieces" "I", Cond.fieldLink RX2 40 "VoiceHeaps$Cutting" "stretches" "I", Cond.fieldLink RX2 43 "VoiceHeaps$Cutting" "total" "I", Cond.fieldLink RX2 46 "VoiceHeaps$Cutting" "heardRows" "I", Cond.fieldLink RX2 27 "VoiceHeaps$Cutting" "pieceOf" "[I", Cond.fieldLink RX2 30 "VoiceHeaps$Cutting" "cost" "[I", Cond.methodLink RX2 49 yJ7_fill_53178, Cond.static yJ7_fill_53178, Cond.initialized RJ7, Cond.code yJ7_fill_53178 cJ7_fill_53178 4 none, Cond.methodLink RX2 60 yX7_isHeard, Cond.instanceMethod yX7_isHeard, Cond.selects RX7 yX7_isHeard yX7_isHeard, Cond.initialized RX7, Cond.code yX7_isHeard cX7_isHeard 5 (some .boolean), Cond.fieldLink RX7 15 "VoiceHeaps$RowBook" "isDeaf" "[Z", Cond.fieldLink RX7 19 "VoiceHeaps$RowBook" "isOut" "[Z", Cond.fieldLink RX7 9 "VoiceHeaps$RowBook" "numbers" "[I", Cond.methodLink RX2 64 yX2_findCosts, Cond.instanceMethod yX2_findCosts, Cond.selects RX2 yX2_findCosts yX2_findCosts, Cond.code yX2_findCosts cX2_findCosts 9 none, Cond.constant RX2 77 (1000000000)]
def wsX11_piece_r3 : List Cond := [Cond.fieldLink RX2 33 "VoiceHeaps$Cutting" "most" "[I", Cond.methodLink RX2 72 yX3_empty, Cond.instanceMethod yX3_empty, Cond.selects RX3 yX3_empty yX3_empty, Cond.initialized RX3, Cond.code yX3_empty cX3_empty 1 none, Cond.fieldLink RX3 16 "VoiceHeaps$Gathering" "rows" "I", Cond.fieldLink RX3 20 "VoiceHeaps$Gathering" "spread" "I", Cond.methodLink RX2 78 yX3_take, Cond.instanceMethod yX3_take, Cond.selects RX3 yX3_take yX3_take, Cond.code yX3_take cX3_take 7 none, Cond.fieldLink RX3 11 "VoiceHeaps$Gathering" "sorted" "[[I", Cond.methodLink RX3 29 Lib.Math.max.name, Cond.static Lib.Math.max.name, Cond.initialized "java/lang/Math", Cond.code Lib.Math.max.name Lib.Math.max.code 2 (some .int), Cond.methodLink RX2 68 yX2_addPieces, Cond.instanceMethod yX2_addPieces, Cond.selects RX2 yX2_addPieces yX2_addPieces, Cond.code yX2_addPieces cX2_addPieces 8 none, Cond.methodLink RX2 84 Lib.Math.max.name, Cond.methodLink RX2 90 Lib.Math.min.name, Cond.static Lib.Math.min.name]
def wsX11_piece_r4 : List Cond := [Cond.code Lib.Math.min.name Lib.Math.min.code 2 (some .int), Cond.fieldLink RX2 9 "VoiceHeaps$Cutting" "first" "[I", Cond.fieldLink RX2 15 "VoiceHeaps$Cutting" "size" "[I", Cond.fieldLink RX2 18 "VoiceHeaps$Cutting" "spread" "[I", Cond.fieldLink RX2 24 "VoiceHeaps$Cutting" "stretchOf" "[I", Cond.fieldLink RX2 21 "VoiceHeaps$Cutting" "middles" "[I", Cond.methodLink RX2 93 yX3_writeMiddle, Cond.instanceMethod yX3_writeMiddle, Cond.selects RX3 yX3_writeMiddle yX3_writeMiddle, Cond.code yX3_writeMiddle cX3_writeMiddle 4 none, Cond.methodLink RX11 104 yX11_within, Cond.static yX11_within, Cond.code yX11_within cX11_within 3 (some .boolean), Cond.methodLink RX11 178 yX2_middleOf, Cond.instanceMethod yX2_middleOf, Cond.selects RX2 yX2_middleOf yX2_middleOf, Cond.code yX2_middleOf cX2_middleOf 3 (some .int)]
def wsX11_piece : List Cond := .code yX11_piece cX11_piece 3 (some .int) :: ((wsX11_piece_r1 ++ (wsX11_piece_r2 ++ (wsX11_piece_r3 ++ wsX11_piece_r4))) ++ wsX110 ++ wsX20 ++ wsX80 ++ wsX70 ++ wsX30)
def wsX11_of_r1 : List Cond := [Cond.fieldLink RX11 19 "VoiceHeaps" "book" "LVoiceHeaps$RowBook;", Cond.fieldLink RX11 33 "VoiceHeaps" "cutting" "LVoiceHeaps$Cutting;", Cond.methodLink RX11 104 yX11_within, Cond.static yX11_within, Cond.initialized RX11, Cond.code yX11_within cX11_within 3 (some .boolean), Cond.methodLink RX11 151 yX11_cutNow, Cond.instanceMethod yX11_cutNow, Cond.selects RX11 yX11_cutNow yX11_cutNow, Cond.code yX11_cutNow cX11_cutNow 1 none, Cond.fieldLink RX11 94 "VoiceHeaps" "cutIsOld" "Z", Cond.fieldLink RX11 26 "VoiceHeaps" "gathering" "LVoiceHeaps$Gathering;", Cond.fieldLink RX11 10 "VoiceHeaps" "ruleText" "LVoiceHeaps$RuleText;", Cond.methodLink RX11 122 yX8_ruleNow, Cond.instanceMethod yX8_ruleNow, Cond.selects RX8 yX8_ruleNow yX8_ruleNow, Cond.initialized RX8, Cond.code yX8_ruleNow cX8_ruleNow 2 (some .int), Cond.fieldLink RX8 13 "VoiceHeaps$RuleText" "now" "[I", Cond.methodLink RX11 302 yX2_cut, Cond.instanceMethod yX2_cut, Cond.selects RX2 yX2_cut yX2_cut, Cond.initialized RX2, Cond.code yX2_cut cX2_cut 7 none]
def wsX11_of_r2 : List Cond := [Cond.fieldLink RX2 36 "VoiceHeaps$Cutting" "pieces" "I", Cond.fieldLink RX2 40 "VoiceHeaps$Cutting" "stretches" "I", Cond.fieldLink RX2 43 "VoiceHeaps$Cutting" "total" "I", Cond.fieldLink RX2 46 "VoiceHeaps$Cutting" "heardRows" "I", Cond.fieldLink RX2 27 "VoiceHeaps$Cutting" "pieceOf" "[I", Cond.fieldLink RX2 30 "VoiceHeaps$Cutting" "cost" "[I", Cond.methodLink RX2 49 yJ7_fill_53178, Cond.static yJ7_fill_53178, Cond.initialized RJ7, Cond.code yJ7_fill_53178 cJ7_fill_53178 4 none, Cond.methodLink RX2 60 yX7_isHeard, Cond.instanceMethod yX7_isHeard, Cond.selects RX7 yX7_isHeard yX7_isHeard, Cond.initialized RX7, Cond.code yX7_isHeard cX7_isHeard 5 (some .boolean), Cond.fieldLink RX7 15 "VoiceHeaps$RowBook" "isDeaf" "[Z", Cond.fieldLink RX7 19 "VoiceHeaps$RowBook" "isOut" "[Z", Cond.fieldLink RX7 9 "VoiceHeaps$RowBook" "numbers" "[I", Cond.methodLink RX2 64 yX2_findCosts, Cond.instanceMethod yX2_findCosts, Cond.selects RX2 yX2_findCosts yX2_findCosts, Cond.code yX2_findCosts cX2_findCosts 9 none, Cond.constant RX2 77 (1000000000), Cond.fieldLink RX2 33 "VoiceHeaps$Cutting" "most" "[I"]
def wsX11_of_r3 : List Cond := [Cond.methodLink RX2 72 yX3_empty, Cond.instanceMethod yX3_empty, Cond.selects RX3 yX3_empty yX3_empty, Cond.initialized RX3, Cond.code yX3_empty cX3_empty 1 none, Cond.fieldLink RX3 16 "VoiceHeaps$Gathering" "rows" "I", Cond.fieldLink RX3 20 "VoiceHeaps$Gathering" "spread" "I", Cond.methodLink RX2 78 yX3_take, Cond.instanceMethod yX3_take, Cond.selects RX3 yX3_take yX3_take, Cond.code yX3_take cX3_take 7 none, Cond.fieldLink RX3 11 "VoiceHeaps$Gathering" "sorted" "[[I", Cond.methodLink RX3 29 Lib.Math.max.name, Cond.static Lib.Math.max.name, Cond.initialized "java/lang/Math", Cond.code Lib.Math.max.name Lib.Math.max.code 2 (some .int), Cond.methodLink RX2 68 yX2_addPieces, Cond.instanceMethod yX2_addPieces, Cond.selects RX2 yX2_addPieces yX2_addPieces, Cond.code yX2_addPieces cX2_addPieces 8 none, Cond.methodLink RX2 84 Lib.Math.max.name, Cond.methodLink RX2 90 Lib.Math.min.name, Cond.static Lib.Math.min.name, Cond.code Lib.Math.min.name Lib.Math.min.code 2 (some .int)]
def wsX11_of_r4 : List Cond := [Cond.fieldLink RX2 9 "VoiceHeaps$Cutting" "first" "[I", Cond.fieldLink RX2 15 "VoiceHeaps$Cutting" "size" "[I", Cond.fieldLink RX2 18 "VoiceHeaps$Cutting" "spread" "[I", Cond.fieldLink RX2 24 "VoiceHeaps$Cutting" "stretchOf" "[I", Cond.fieldLink RX2 21 "VoiceHeaps$Cutting" "middles" "[I", Cond.methodLink RX2 93 yX3_writeMiddle, Cond.instanceMethod yX3_writeMiddle, Cond.selects RX3 yX3_writeMiddle yX3_writeMiddle, Cond.code yX3_writeMiddle cX3_writeMiddle 4 none]
def wsX11_of : List Cond := .code yX11_of cX11_of 2 (some .int) :: ((wsX11_of_r1 ++ (wsX11_of_r2 ++ (wsX11_of_r3 ++ wsX11_of_r4))) ++ wsX110 ++ wsX70 ++ wsX20 ++ wsX80 ++ wsX30)
def wsX11_like_r1 : List Cond := [Cond.constant RX11 185 (-1000000), Cond.fieldLink RX11 33 "VoiceHeaps" "cutting" "LVoiceHeaps$Cutting;", Cond.fieldLink RX11 10 "VoiceHeaps" "ruleText" "LVoiceHeaps$RuleText;", Cond.methodLink RX11 166 yX11_isPiece, Cond.instanceMethod yX11_isPiece, Cond.selects RX11 yX11_isPiece yX11_isPiece, Cond.initialized RX11, Cond.code yX11_isPiece cX11_isPiece 2 (some .boolean), Cond.methodLink RX11 151 yX11_cutNow, Cond.instanceMethod yX11_cutNow, Cond.selects RX11 yX11_cutNow yX11_cutNow, Cond.code yX11_cutNow cX11_cutNow 1 none, Cond.fieldLink RX11 94 "VoiceHeaps" "cutIsOld" "Z", Cond.fieldLink RX11 19 "VoiceHeaps" "book" "LVoiceHeaps$RowBook;", Cond.fieldLink RX11 26 "VoiceHeaps" "gathering" "LVoiceHeaps$Gathering;", Cond.methodLink RX11 122 yX8_ruleNow, Cond.instanceMethod yX8_ruleNow, Cond.selects RX8 yX8_ruleNow yX8_ruleNow, Cond.initialized RX8, Cond.code yX8_ruleNow cX8_ruleNow 2 (some .int), Cond.fieldLink RX8 13 "VoiceHeaps$RuleText" "now" "[I", Cond.methodLink RX11 302 yX2_cut, Cond.instanceMethod yX2_cut, Cond.selects RX2 yX2_cut yX2_cut]
def wsX11_like_r2 : List Cond := [Cond.initialized RX2, Cond.code yX2_cut cX2_cut 7 none, Cond.fieldLink RX2 36 "VoiceHeaps$Cutting" "pieces" "I", Cond.fieldLink RX2 40 "VoiceHeaps$Cutting" "stretches" "I", Cond.fieldLink RX2 43 "VoiceHeaps$Cutting" "total" "I", Cond.fieldLink RX2 46 "VoiceHeaps$Cutting" "heardRows" "I", Cond.fieldLink RX2 27 "VoiceHeaps$Cutting" "pieceOf" "[I", Cond.fieldLink RX2 30 "VoiceHeaps$Cutting" "cost" "[I", Cond.methodLink RX2 49 yJ7_fill_53178, Cond.static yJ7_fill_53178, Cond.initialized RJ7, Cond.code yJ7_fill_53178 cJ7_fill_53178 4 none, Cond.methodLink RX2 60 yX7_isHeard, Cond.instanceMethod yX7_isHeard, Cond.selects RX7 yX7_isHeard yX7_isHeard, Cond.initialized RX7, Cond.code yX7_isHeard cX7_isHeard 5 (some .boolean), Cond.fieldLink RX7 15 "VoiceHeaps$RowBook" "isDeaf" "[Z", Cond.fieldLink RX7 19 "VoiceHeaps$RowBook" "isOut" "[Z", Cond.fieldLink RX7 9 "VoiceHeaps$RowBook" "numbers" "[I", Cond.methodLink RX2 64 yX2_findCosts, Cond.instanceMethod yX2_findCosts, Cond.selects RX2 yX2_findCosts yX2_findCosts, Cond.code yX2_findCosts cX2_findCosts 9 none]
def wsX11_like_r3 : List Cond := [Cond.constant RX2 77 (1000000000), Cond.fieldLink RX2 33 "VoiceHeaps$Cutting" "most" "[I", Cond.methodLink RX2 72 yX3_empty, Cond.instanceMethod yX3_empty, Cond.selects RX3 yX3_empty yX3_empty, Cond.initialized RX3, Cond.code yX3_empty cX3_empty 1 none, Cond.fieldLink RX3 16 "VoiceHeaps$Gathering" "rows" "I", Cond.fieldLink RX3 20 "VoiceHeaps$Gathering" "spread" "I", Cond.methodLink RX2 78 yX3_take, Cond.instanceMethod yX3_take, Cond.selects RX3 yX3_take yX3_take, Cond.code yX3_take cX3_take 7 none, Cond.fieldLink RX3 11 "VoiceHeaps$Gathering" "sorted" "[[I", Cond.methodLink RX3 29 Lib.Math.max.name, Cond.static Lib.Math.max.name, Cond.initialized "java/lang/Math", Cond.code Lib.Math.max.name Lib.Math.max.code 2 (some .int), Cond.methodLink RX2 68 yX2_addPieces, Cond.instanceMethod yX2_addPieces, Cond.selects RX2 yX2_addPieces yX2_addPieces, Cond.code yX2_addPieces cX2_addPieces 8 none, Cond.methodLink RX2 84 Lib.Math.max.name, Cond.methodLink RX2 90 Lib.Math.min.name]
def wsX11_like_r4 : List Cond := [Cond.static Lib.Math.min.name, Cond.code Lib.Math.min.name Lib.Math.min.code 2 (some .int), Cond.fieldLink RX2 9 "VoiceHeaps$Cutting" "first" "[I", Cond.fieldLink RX2 15 "VoiceHeaps$Cutting" "size" "[I", Cond.fieldLink RX2 18 "VoiceHeaps$Cutting" "spread" "[I", Cond.fieldLink RX2 24 "VoiceHeaps$Cutting" "stretchOf" "[I", Cond.fieldLink RX2 21 "VoiceHeaps$Cutting" "middles" "[I", Cond.methodLink RX2 93 yX3_writeMiddle, Cond.instanceMethod yX3_writeMiddle, Cond.selects RX3 yX3_writeMiddle yX3_writeMiddle, Cond.code yX3_writeMiddle cX3_writeMiddle 4 none, Cond.methodLink RX11 104 yX11_within, Cond.static yX11_within, Cond.code yX11_within cX11_within 3 (some .boolean), Cond.methodLink RX11 186 yX2_likeness, Cond.instanceMethod yX2_likeness, Cond.selects RX2 yX2_likeness yX2_likeness, Cond.code yX2_likeness cX2_likeness 4 (some .int), Cond.static yX11_off, Cond.code yX11_off cX11_off 6 (some .int), Cond.methodLink RX11 326 Lib.Math.abs.name, Cond.static Lib.Math.abs.name, Cond.code Lib.Math.abs.name Lib.Math.abs.code 1 (some .int)]
def wsX11_like : List Cond := .code yX11_like cX11_like 3 (some .int) :: ((wsX11_like_r1 ++ (wsX11_like_r2 ++ (wsX11_like_r3 ++ wsX11_like_r4))) ++ wsX110 ++ wsX20 ++ wsX80 ++ wsX70 ++ wsX30)
def wsX11_heapNow_r1 : List Cond := [Cond.fieldLink RX11 33 "VoiceHeaps" "cutting" "LVoiceHeaps$Cutting;", Cond.fieldLink RX11 98 "VoiceHeaps" "heapsAreOld" "Z", Cond.fieldLink RX11 40 "VoiceHeaps" "bonds" "LVoiceHeaps$Bonds;", Cond.fieldLink RX11 10 "VoiceHeaps" "ruleText" "LVoiceHeaps$RuleText;", Cond.fieldLink RX11 47 "VoiceHeaps" "all" "LVoiceHeaps$AllHeapings;", Cond.fieldLink RX11 19 "VoiceHeaps" "book" "LVoiceHeaps$RowBook;", Cond.fieldLink RX11 26 "VoiceHeaps" "gathering" "LVoiceHeaps$Gathering;", Cond.fieldLink RX11 54 "VoiceHeaps" "joined" "LVoiceHeaps$Heaping;", Cond.methodLink RX11 151 yX11_cutNow, Cond.instanceMethod yX11_cutNow, Cond.selects RX11 yX11_cutNow yX11_cutNow, Cond.initialized RX11, Cond.code yX11_cutNow cX11_cutNow 1 none, Cond.fieldLink RX11 94 "VoiceHeaps" "cutIsOld" "Z", Cond.methodLink RX11 122 yX8_ruleNow, Cond.instanceMethod yX8_ruleNow, Cond.selects RX8 yX8_ruleNow yX8_ruleNow, Cond.initialized RX8, Cond.code yX8_ruleNow cX8_ruleNow 2 (some .int), Cond.fieldLink RX8 13 "VoiceHeaps$RuleText" "now" "[I", Cond.methodLink RX11 302 yX2_cut, Cond.instanceMethod yX2_cut, Cond.selects RX2 yX2_cut yX2_cut, Cond.initialized RX2]
def wsX11_heapNow_r2 : List Cond := [Cond.code yX2_cut cX2_cut 7 none, Cond.fieldLink RX2 36 "VoiceHeaps$Cutting" "pieces" "I", Cond.fieldLink RX2 40 "VoiceHeaps$Cutting" "stretches" "I", Cond.fieldLink RX2 43 "VoiceHeaps$Cutting" "total" "I", Cond.fieldLink RX2 46 "VoiceHeaps$Cutting" "heardRows" "I", Cond.fieldLink RX2 27 "VoiceHeaps$Cutting" "pieceOf" "[I", Cond.fieldLink RX2 30 "VoiceHeaps$Cutting" "cost" "[I", Cond.methodLink RX2 49 yJ7_fill_53178, Cond.static yJ7_fill_53178, Cond.initialized RJ7, Cond.code yJ7_fill_53178 cJ7_fill_53178 4 none, Cond.methodLink RX2 60 yX7_isHeard, Cond.instanceMethod yX7_isHeard, Cond.selects RX7 yX7_isHeard yX7_isHeard, Cond.initialized RX7, Cond.code yX7_isHeard cX7_isHeard 5 (some .boolean), Cond.fieldLink RX7 15 "VoiceHeaps$RowBook" "isDeaf" "[Z", Cond.fieldLink RX7 19 "VoiceHeaps$RowBook" "isOut" "[Z", Cond.fieldLink RX7 9 "VoiceHeaps$RowBook" "numbers" "[I", Cond.methodLink RX2 64 yX2_findCosts, Cond.instanceMethod yX2_findCosts, Cond.selects RX2 yX2_findCosts yX2_findCosts, Cond.code yX2_findCosts cX2_findCosts 9 none, Cond.constant RX2 77 (1000000000)]
def wsX11_heapNow_r3 : List Cond := [Cond.fieldLink RX2 33 "VoiceHeaps$Cutting" "most" "[I", Cond.methodLink RX2 72 yX3_empty, Cond.instanceMethod yX3_empty, Cond.selects RX3 yX3_empty yX3_empty, Cond.initialized RX3, Cond.code yX3_empty cX3_empty 1 none, Cond.fieldLink RX3 16 "VoiceHeaps$Gathering" "rows" "I", Cond.fieldLink RX3 20 "VoiceHeaps$Gathering" "spread" "I", Cond.methodLink RX2 78 yX3_take, Cond.instanceMethod yX3_take, Cond.selects RX3 yX3_take yX3_take, Cond.code yX3_take cX3_take 7 none, Cond.fieldLink RX3 11 "VoiceHeaps$Gathering" "sorted" "[[I", Cond.methodLink RX3 29 Lib.Math.max.name, Cond.static Lib.Math.max.name, Cond.initialized "java/lang/Math", Cond.code Lib.Math.max.name Lib.Math.max.code 2 (some .int), Cond.methodLink RX2 68 yX2_addPieces, Cond.instanceMethod yX2_addPieces, Cond.selects RX2 yX2_addPieces yX2_addPieces, Cond.code yX2_addPieces cX2_addPieces 8 none, Cond.methodLink RX2 84 Lib.Math.max.name, Cond.methodLink RX2 90 Lib.Math.min.name, Cond.static Lib.Math.min.name]
def wsX11_heapNow_r4 : List Cond := [Cond.code Lib.Math.min.name Lib.Math.min.code 2 (some .int), Cond.fieldLink RX2 9 "VoiceHeaps$Cutting" "first" "[I", Cond.fieldLink RX2 15 "VoiceHeaps$Cutting" "size" "[I", Cond.fieldLink RX2 18 "VoiceHeaps$Cutting" "spread" "[I", Cond.fieldLink RX2 24 "VoiceHeaps$Cutting" "stretchOf" "[I", Cond.fieldLink RX2 21 "VoiceHeaps$Cutting" "middles" "[I", Cond.methodLink RX2 93 yX3_writeMiddle, Cond.instanceMethod yX3_writeMiddle, Cond.selects RX3 yX3_writeMiddle yX3_writeMiddle, Cond.code yX3_writeMiddle cX3_writeMiddle 4 none, Cond.methodLink RX11 306 yX1_tie, Cond.instanceMethod yX1_tie, Cond.selects RX1 yX1_tie yX1_tie, Cond.initialized RX1, Cond.code yX1_tie cX1_tie 7 none, Cond.methodLink RX1 29 Lib.Math.min.name, Cond.fieldLink RX1 35 "VoiceHeaps$Bonds" "pieces" "I", Cond.fieldLink RX1 11 "VoiceHeaps$Bonds" "bond" "[[I", Cond.methodLink RX1 36 yX2_likeness, Cond.instanceMethod yX2_likeness, Cond.selects RX2 yX2_likeness yX2_likeness, Cond.code yX2_likeness cX2_likeness 4 (some .int), Cond.static yX11_off, Cond.code yX11_off cX11_off 6 (some .int)]
def wsX11_heapNow_r5 : List Cond := [Cond.methodLink RX11 326 Lib.Math.abs.name, Cond.static Lib.Math.abs.name, Cond.code Lib.Math.abs.name Lib.Math.abs.code 1 (some .int), Cond.methodLink RX1 40 yX2_doTouch, Cond.instanceMethod yX2_doTouch, Cond.selects RX2 yX2_doTouch yX2_doTouch, Cond.code yX2_doTouch cX2_doTouch 3 (some .boolean), Cond.methodLink RX2 100 Lib.Math.abs.name, Cond.methodLink RX1 44 yX1_fillGains, Cond.instanceMethod yX1_fillGains, Cond.selects RX1 yX1_fillGains yX1_fillGains, Cond.code yX1_fillGains cX1_fillGains 6 none, Cond.fieldLink RX1 19 "VoiceHeaps$Bonds" "gain" "[I", Cond.methodLink RX11 310 yX0_findBest, Cond.instanceMethod yX0_findBest, Cond.selects RX0 yX0_findBest yX0_findBest, Cond.initialized RX0, Cond.code yX0_findBest cX0_findBest 2 none, Cond.fieldLink RX0 25 "VoiceHeaps$AllHeapings" "isForNear" "Z", Cond.fieldLink RX0 12 "VoiceHeaps$AllHeapings" "best" "LVoiceHeaps$Heaping;", Cond.constant RX0 29 (-1000000000), Cond.fieldLink RX0 22 "VoiceHeaps$AllHeapings" "members" "[I", Cond.methodLink RX0 34 yJ7_fill_53178, Cond.methodLink RX0 40 yX0_deal]
def wsX11_heapNow_r6 : List Cond := [Cond.static yX0_deal, Cond.code yX0_deal cX0_deal 9 none, Cond.fieldLink RX0 18 "VoiceHeaps$AllHeapings" "heapOf" "[I", Cond.methodLink RX0 74 Lib.Math.max.name, Cond.methodLink RX0 70 yX0_meet, Cond.instanceMethod yX0_meet, Cond.selects RX0 yX0_meet yX0_meet, Cond.code yX0_meet cX0_meet 7 none, Cond.methodLink RX0 87 yX0_meetNear, Cond.instanceMethod yX0_meetNear, Cond.selects RX0 yX0_meetNear yX0_meetNear, Cond.code yX0_meetNear cX0_meetNear 5 none, Cond.fieldLink RX0 44 "VoiceHeaps$AllHeapings" "least" "I", Cond.fieldLink RX0 47 "VoiceHeaps$AllHeapings" "nearOnes" "I", Cond.fieldLink RX0 50 "VoiceHeaps$AllHeapings" "fewest" "I", Cond.methodLink RX0 95 Lib.Math.min.name, Cond.fieldLink RX0 53 "VoiceHeaps$AllHeapings" "most" "I", Cond.fieldLink RX0 58 "VoiceHeaps$AllHeapings" "always" "J", Cond.fieldLink RX0 62 "VoiceHeaps$AllHeapings" "ever" "J", Cond.methodLink RX0 80 yX1_gainOf, Cond.instanceMethod yX1_gainOf, Cond.selects RX1 yX1_gainOf yX1_gainOf, Cond.code yX1_gainOf cX1_gainOf 4 (some .int), Cond.methodLink RX0 83 yX0_placeOfPairs]
def wsX11_heapNow_r7 : List Cond := [Cond.static yX0_placeOfPairs, Cond.code yX0_placeOfPairs cX0_placeOfPairs 1 (some .int), Cond.methodLink RX11 314 yX4_findMiddles, Cond.instanceMethod yX4_findMiddles, Cond.selects RX4 yX4_findMiddles yX4_findMiddles, Cond.initialized RX4, Cond.code yX4_findMiddles cX4_findMiddles 7 none, Cond.fieldLink RX4 27 "VoiceHeaps$Heaping" "heaps" "I", Cond.fieldLink RX4 9 "VoiceHeaps$Heaping" "heapOf" "[I", Cond.fieldLink RX4 18 "VoiceHeaps$Heaping" "middles" "[I", Cond.methodLink RX4 31 yX3_empty, Cond.methodLink RX4 46 yX3_take, Cond.methodLink RX4 50 yX3_writeMiddle, Cond.methodLink RX11 318 yX1_join, Cond.instanceMethod yX1_join, Cond.selects RX1 yX1_join yX1_join, Cond.code yX1_join cX1_join 4 none, Cond.fieldLink RX1 16 "VoiceHeaps$Bonds" "link" "[[I", Cond.methodLink RX1 53 yX1_joinTwo, Cond.instanceMethod yX1_joinTwo, Cond.selects RX1 yX1_joinTwo yX1_joinTwo, Cond.code yX1_joinTwo cX1_joinTwo 7 (some .boolean), Cond.methodLink RX1 57 yX4_numberHeaps, Cond.instanceMethod yX4_numberHeaps]
def wsX11_heapNow_r8 : List Cond := [Cond.selects RX4 yX4_numberHeaps yX4_numberHeaps, Cond.code yX4_numberHeaps cX4_numberHeaps 4 none, Cond.fieldLink RX4 15 "VoiceHeaps$Heaping" "renamed" "[I", Cond.methodLink RX4 21 yJ7_fill_53178, Cond.methodLink RX1 60 yX1_worthOf, Cond.instanceMethod yX1_worthOf, Cond.selects RX1 yX1_worthOf yX1_worthOf, Cond.code yX1_worthOf cX1_worthOf 5 (some .int)]
def wsX11_heapNow : List Cond := .code yX11_heapNow cX11_heapNow 1 (some .boolean) :: ((wsX11_heapNow_r1 ++ (wsX11_heapNow_r2 ++ (wsX11_heapNow_r3 ++ (wsX11_heapNow_r4 ++ (wsX11_heapNow_r5 ++ (wsX11_heapNow_r6 ++ (wsX11_heapNow_r7 ++ wsX11_heapNow_r8))))))) ++ wsX110 ++ wsX20 ++ wsX00 ++ wsX80 ++ wsX70 ++ wsX30 ++ wsX10 ++ wsX40)
def wsX11_byWay : List Cond := .code yX11_byWay cX11_byWay 2 (some (.object "VoiceHeaps$Heaping")) :: ([.fieldLink RX11 47 "VoiceHeaps" "all" "LVoiceHeaps$AllHeapings;", .fieldLink RX11 54 "VoiceHeaps" "joined" "LVoiceHeaps$Heaping;"] ++ wsX110 ++ wsX00)
def wsX11_heap_r1 : List Cond := [Cond.methodLink RX11 166 yX11_isPiece, Cond.instanceMethod yX11_isPiece, Cond.selects RX11 yX11_isPiece yX11_isPiece, Cond.initialized RX11, Cond.code yX11_isPiece cX11_isPiece 2 (some .boolean), Cond.fieldLink RX11 33 "VoiceHeaps" "cutting" "LVoiceHeaps$Cutting;", Cond.methodLink RX11 151 yX11_cutNow, Cond.instanceMethod yX11_cutNow, Cond.selects RX11 yX11_cutNow yX11_cutNow, Cond.code yX11_cutNow cX11_cutNow 1 none, Cond.fieldLink RX11 94 "VoiceHeaps" "cutIsOld" "Z", Cond.fieldLink RX11 19 "VoiceHeaps" "book" "LVoiceHeaps$RowBook;", Cond.fieldLink RX11 26 "VoiceHeaps" "gathering" "LVoiceHeaps$Gathering;", Cond.fieldLink RX11 10 "VoiceHeaps" "ruleText" "LVoiceHeaps$RuleText;", Cond.methodLink RX11 122 yX8_ruleNow, Cond.instanceMethod yX8_ruleNow, Cond.selects RX8 yX8_ruleNow yX8_ruleNow, Cond.initialized RX8, Cond.code yX8_ruleNow cX8_ruleNow 2 (some .int), Cond.fieldLink RX8 13 "VoiceHeaps$RuleText" "now" "[I", Cond.methodLink RX11 302 yX2_cut, Cond.instanceMethod yX2_cut, Cond.selects RX2 yX2_cut yX2_cut, Cond.initialized RX2]
def wsX11_heap_r2 : List Cond := [Cond.code yX2_cut cX2_cut 7 none, Cond.fieldLink RX2 36 "VoiceHeaps$Cutting" "pieces" "I", Cond.fieldLink RX2 40 "VoiceHeaps$Cutting" "stretches" "I", Cond.fieldLink RX2 43 "VoiceHeaps$Cutting" "total" "I", Cond.fieldLink RX2 46 "VoiceHeaps$Cutting" "heardRows" "I", Cond.fieldLink RX2 27 "VoiceHeaps$Cutting" "pieceOf" "[I", Cond.fieldLink RX2 30 "VoiceHeaps$Cutting" "cost" "[I", Cond.methodLink RX2 49 yJ7_fill_53178, Cond.static yJ7_fill_53178, Cond.initialized RJ7, Cond.code yJ7_fill_53178 cJ7_fill_53178 4 none, Cond.methodLink RX2 60 yX7_isHeard, Cond.instanceMethod yX7_isHeard, Cond.selects RX7 yX7_isHeard yX7_isHeard, Cond.initialized RX7, Cond.code yX7_isHeard cX7_isHeard 5 (some .boolean), Cond.fieldLink RX7 15 "VoiceHeaps$RowBook" "isDeaf" "[Z", Cond.fieldLink RX7 19 "VoiceHeaps$RowBook" "isOut" "[Z", Cond.fieldLink RX7 9 "VoiceHeaps$RowBook" "numbers" "[I", Cond.methodLink RX2 64 yX2_findCosts, Cond.instanceMethod yX2_findCosts, Cond.selects RX2 yX2_findCosts yX2_findCosts, Cond.code yX2_findCosts cX2_findCosts 9 none, Cond.constant RX2 77 (1000000000)]
def wsX11_heap_r3 : List Cond := [Cond.fieldLink RX2 33 "VoiceHeaps$Cutting" "most" "[I", Cond.methodLink RX2 72 yX3_empty, Cond.instanceMethod yX3_empty, Cond.selects RX3 yX3_empty yX3_empty, Cond.initialized RX3, Cond.code yX3_empty cX3_empty 1 none, Cond.fieldLink RX3 16 "VoiceHeaps$Gathering" "rows" "I", Cond.fieldLink RX3 20 "VoiceHeaps$Gathering" "spread" "I", Cond.methodLink RX2 78 yX3_take, Cond.instanceMethod yX3_take, Cond.selects RX3 yX3_take yX3_take, Cond.code yX3_take cX3_take 7 none, Cond.fieldLink RX3 11 "VoiceHeaps$Gathering" "sorted" "[[I", Cond.methodLink RX3 29 Lib.Math.max.name, Cond.static Lib.Math.max.name, Cond.initialized "java/lang/Math", Cond.code Lib.Math.max.name Lib.Math.max.code 2 (some .int), Cond.methodLink RX2 68 yX2_addPieces, Cond.instanceMethod yX2_addPieces, Cond.selects RX2 yX2_addPieces yX2_addPieces, Cond.code yX2_addPieces cX2_addPieces 8 none, Cond.methodLink RX2 84 Lib.Math.max.name, Cond.methodLink RX2 90 Lib.Math.min.name, Cond.static Lib.Math.min.name]
def wsX11_heap_r4 : List Cond := [Cond.code Lib.Math.min.name Lib.Math.min.code 2 (some .int), Cond.fieldLink RX2 9 "VoiceHeaps$Cutting" "first" "[I", Cond.fieldLink RX2 15 "VoiceHeaps$Cutting" "size" "[I", Cond.fieldLink RX2 18 "VoiceHeaps$Cutting" "spread" "[I", Cond.fieldLink RX2 24 "VoiceHeaps$Cutting" "stretchOf" "[I", Cond.fieldLink RX2 21 "VoiceHeaps$Cutting" "middles" "[I", Cond.methodLink RX2 93 yX3_writeMiddle, Cond.instanceMethod yX3_writeMiddle, Cond.selects RX3 yX3_writeMiddle yX3_writeMiddle, Cond.code yX3_writeMiddle cX3_writeMiddle 4 none, Cond.methodLink RX11 104 yX11_within, Cond.static yX11_within, Cond.code yX11_within cX11_within 3 (some .boolean), Cond.methodLink RX11 190 yX11_heapNow, Cond.instanceMethod yX11_heapNow, Cond.selects RX11 yX11_heapNow yX11_heapNow, Cond.code yX11_heapNow cX11_heapNow 1 (some .boolean), Cond.fieldLink RX11 98 "VoiceHeaps" "heapsAreOld" "Z", Cond.fieldLink RX11 40 "VoiceHeaps" "bonds" "LVoiceHeaps$Bonds;", Cond.fieldLink RX11 47 "VoiceHeaps" "all" "LVoiceHeaps$AllHeapings;", Cond.fieldLink RX11 54 "VoiceHeaps" "joined" "LVoiceHeaps$Heaping;", Cond.methodLink RX11 306 yX1_tie, Cond.instanceMethod yX1_tie, Cond.selects RX1 yX1_tie yX1_tie]
def wsX11_heap_r5 : List Cond := [Cond.initialized RX1, Cond.code yX1_tie cX1_tie 7 none, Cond.methodLink RX1 29 Lib.Math.min.name, Cond.fieldLink RX1 35 "VoiceHeaps$Bonds" "pieces" "I", Cond.fieldLink RX1 11 "VoiceHeaps$Bonds" "bond" "[[I", Cond.methodLink RX1 36 yX2_likeness, Cond.instanceMethod yX2_likeness, Cond.selects RX2 yX2_likeness yX2_likeness, Cond.code yX2_likeness cX2_likeness 4 (some .int), Cond.static yX11_off, Cond.code yX11_off cX11_off 6 (some .int), Cond.methodLink RX11 326 Lib.Math.abs.name, Cond.static Lib.Math.abs.name, Cond.code Lib.Math.abs.name Lib.Math.abs.code 1 (some .int), Cond.methodLink RX1 40 yX2_doTouch, Cond.instanceMethod yX2_doTouch, Cond.selects RX2 yX2_doTouch yX2_doTouch, Cond.code yX2_doTouch cX2_doTouch 3 (some .boolean), Cond.methodLink RX2 100 Lib.Math.abs.name, Cond.methodLink RX1 44 yX1_fillGains, Cond.instanceMethod yX1_fillGains, Cond.selects RX1 yX1_fillGains yX1_fillGains, Cond.code yX1_fillGains cX1_fillGains 6 none, Cond.fieldLink RX1 19 "VoiceHeaps$Bonds" "gain" "[I"]
def wsX11_heap_r6 : List Cond := [Cond.methodLink RX11 310 yX0_findBest, Cond.instanceMethod yX0_findBest, Cond.selects RX0 yX0_findBest yX0_findBest, Cond.initialized RX0, Cond.code yX0_findBest cX0_findBest 2 none, Cond.fieldLink RX0 25 "VoiceHeaps$AllHeapings" "isForNear" "Z", Cond.fieldLink RX0 12 "VoiceHeaps$AllHeapings" "best" "LVoiceHeaps$Heaping;", Cond.constant RX0 29 (-1000000000), Cond.fieldLink RX0 22 "VoiceHeaps$AllHeapings" "members" "[I", Cond.methodLink RX0 34 yJ7_fill_53178, Cond.methodLink RX0 40 yX0_deal, Cond.static yX0_deal, Cond.code yX0_deal cX0_deal 9 none, Cond.fieldLink RX0 18 "VoiceHeaps$AllHeapings" "heapOf" "[I", Cond.methodLink RX0 74 Lib.Math.max.name, Cond.methodLink RX0 70 yX0_meet, Cond.instanceMethod yX0_meet, Cond.selects RX0 yX0_meet yX0_meet, Cond.code yX0_meet cX0_meet 7 none, Cond.methodLink RX0 87 yX0_meetNear, Cond.instanceMethod yX0_meetNear, Cond.selects RX0 yX0_meetNear yX0_meetNear, Cond.code yX0_meetNear cX0_meetNear 5 none, Cond.fieldLink RX0 44 "VoiceHeaps$AllHeapings" "least" "I"]
def wsX11_heap_r7 : List Cond := [Cond.fieldLink RX0 47 "VoiceHeaps$AllHeapings" "nearOnes" "I", Cond.fieldLink RX0 50 "VoiceHeaps$AllHeapings" "fewest" "I", Cond.methodLink RX0 95 Lib.Math.min.name, Cond.fieldLink RX0 53 "VoiceHeaps$AllHeapings" "most" "I", Cond.fieldLink RX0 58 "VoiceHeaps$AllHeapings" "always" "J", Cond.fieldLink RX0 62 "VoiceHeaps$AllHeapings" "ever" "J", Cond.methodLink RX0 80 yX1_gainOf, Cond.instanceMethod yX1_gainOf, Cond.selects RX1 yX1_gainOf yX1_gainOf, Cond.code yX1_gainOf cX1_gainOf 4 (some .int), Cond.methodLink RX0 83 yX0_placeOfPairs, Cond.static yX0_placeOfPairs, Cond.code yX0_placeOfPairs cX0_placeOfPairs 1 (some .int), Cond.methodLink RX11 314 yX4_findMiddles, Cond.instanceMethod yX4_findMiddles, Cond.selects RX4 yX4_findMiddles yX4_findMiddles, Cond.initialized RX4, Cond.code yX4_findMiddles cX4_findMiddles 7 none, Cond.fieldLink RX4 27 "VoiceHeaps$Heaping" "heaps" "I", Cond.fieldLink RX4 9 "VoiceHeaps$Heaping" "heapOf" "[I", Cond.fieldLink RX4 18 "VoiceHeaps$Heaping" "middles" "[I", Cond.methodLink RX4 31 yX3_empty, Cond.methodLink RX4 46 yX3_take, Cond.methodLink RX4 50 yX3_writeMiddle]
def wsX11_heap_r8 : List Cond := [Cond.methodLink RX11 318 yX1_join, Cond.instanceMethod yX1_join, Cond.selects RX1 yX1_join yX1_join, Cond.code yX1_join cX1_join 4 none, Cond.fieldLink RX1 16 "VoiceHeaps$Bonds" "link" "[[I", Cond.methodLink RX1 53 yX1_joinTwo, Cond.instanceMethod yX1_joinTwo, Cond.selects RX1 yX1_joinTwo yX1_joinTwo, Cond.code yX1_joinTwo cX1_joinTwo 7 (some .boolean), Cond.methodLink RX1 57 yX4_numberHeaps, Cond.instanceMethod yX4_numberHeaps, Cond.selects RX4 yX4_numberHeaps yX4_numberHeaps, Cond.code yX4_numberHeaps cX4_numberHeaps 4 none, Cond.fieldLink RX4 15 "VoiceHeaps$Heaping" "renamed" "[I", Cond.methodLink RX4 21 yJ7_fill_53178, Cond.methodLink RX1 60 yX1_worthOf, Cond.instanceMethod yX1_worthOf, Cond.selects RX1 yX1_worthOf yX1_worthOf, Cond.code yX1_worthOf cX1_worthOf 5 (some .int), Cond.methodLink RX11 194 yX11_byWay, Cond.instanceMethod yX11_byWay, Cond.selects RX11 yX11_byWay yX11_byWay, Cond.code yX11_byWay cX11_byWay 2 (some (.object "VoiceHeaps$Heaping"))]
def wsX11_heap : List Cond := .code yX11_heap cX11_heap 3 (some .int) :: ((wsX11_heap_r1 ++ (wsX11_heap_r2 ++ (wsX11_heap_r3 ++ (wsX11_heap_r4 ++ (wsX11_heap_r5 ++ (wsX11_heap_r6 ++ (wsX11_heap_r7 ++ wsX11_heap_r8))))))) ++ wsX40 ++ wsX110 ++ wsX20 ++ wsX80 ++ wsX70 ++ wsX30 ++ wsX00 ++ wsX10)
def wsX11_worth_r1 : List Cond := [Cond.constant RX11 185 (-1000000), Cond.methodLink RX11 104 yX11_within, Cond.static yX11_within, Cond.initialized RX11, Cond.code yX11_within cX11_within 3 (some .boolean), Cond.methodLink RX11 190 yX11_heapNow, Cond.instanceMethod yX11_heapNow, Cond.selects RX11 yX11_heapNow yX11_heapNow, Cond.code yX11_heapNow cX11_heapNow 1 (some .boolean), Cond.fieldLink RX11 33 "VoiceHeaps" "cutting" "LVoiceHeaps$Cutting;", Cond.fieldLink RX11 98 "VoiceHeaps" "heapsAreOld" "Z", Cond.fieldLink RX11 40 "VoiceHeaps" "bonds" "LVoiceHeaps$Bonds;", Cond.fieldLink RX11 10 "VoiceHeaps" "ruleText" "LVoiceHeaps$RuleText;", Cond.fieldLink RX11 47 "VoiceHeaps" "all" "LVoiceHeaps$AllHeapings;", Cond.fieldLink RX11 19 "VoiceHeaps" "book" "LVoiceHeaps$RowBook;", Cond.fieldLink RX11 26 "VoiceHeaps" "gathering" "LVoiceHeaps$Gathering;", Cond.fieldLink RX11 54 "VoiceHeaps" "joined" "LVoiceHeaps$Heaping;", Cond.methodLink RX11 151 yX11_cutNow, Cond.instanceMethod yX11_cutNow, Cond.selects RX11 yX11_cutNow yX11_cutNow, Cond.code yX11_cutNow cX11_cutNow 1 none, Cond.fieldLink RX11 94 "VoiceHeaps" "cutIsOld" "Z", Cond.methodLink RX11 122 yX8_ruleNow, Cond.instanceMethod yX8_ruleNow]
def wsX11_worth_r2 : List Cond := [Cond.selects RX8 yX8_ruleNow yX8_ruleNow, Cond.initialized RX8, Cond.code yX8_ruleNow cX8_ruleNow 2 (some .int), Cond.fieldLink RX8 13 "VoiceHeaps$RuleText" "now" "[I", Cond.methodLink RX11 302 yX2_cut, Cond.instanceMethod yX2_cut, Cond.selects RX2 yX2_cut yX2_cut, Cond.initialized RX2, Cond.code yX2_cut cX2_cut 7 none, Cond.fieldLink RX2 36 "VoiceHeaps$Cutting" "pieces" "I", Cond.fieldLink RX2 40 "VoiceHeaps$Cutting" "stretches" "I", Cond.fieldLink RX2 43 "VoiceHeaps$Cutting" "total" "I", Cond.fieldLink RX2 46 "VoiceHeaps$Cutting" "heardRows" "I", Cond.fieldLink RX2 27 "VoiceHeaps$Cutting" "pieceOf" "[I", Cond.fieldLink RX2 30 "VoiceHeaps$Cutting" "cost" "[I", Cond.methodLink RX2 49 yJ7_fill_53178, Cond.static yJ7_fill_53178, Cond.initialized RJ7, Cond.code yJ7_fill_53178 cJ7_fill_53178 4 none, Cond.methodLink RX2 60 yX7_isHeard, Cond.instanceMethod yX7_isHeard, Cond.selects RX7 yX7_isHeard yX7_isHeard, Cond.initialized RX7, Cond.code yX7_isHeard cX7_isHeard 5 (some .boolean)]
def wsX11_worth_r3 : List Cond := [Cond.fieldLink RX7 15 "VoiceHeaps$RowBook" "isDeaf" "[Z", Cond.fieldLink RX7 19 "VoiceHeaps$RowBook" "isOut" "[Z", Cond.fieldLink RX7 9 "VoiceHeaps$RowBook" "numbers" "[I", Cond.methodLink RX2 64 yX2_findCosts, Cond.instanceMethod yX2_findCosts, Cond.selects RX2 yX2_findCosts yX2_findCosts, Cond.code yX2_findCosts cX2_findCosts 9 none, Cond.constant RX2 77 (1000000000), Cond.fieldLink RX2 33 "VoiceHeaps$Cutting" "most" "[I", Cond.methodLink RX2 72 yX3_empty, Cond.instanceMethod yX3_empty, Cond.selects RX3 yX3_empty yX3_empty, Cond.initialized RX3, Cond.code yX3_empty cX3_empty 1 none, Cond.fieldLink RX3 16 "VoiceHeaps$Gathering" "rows" "I", Cond.fieldLink RX3 20 "VoiceHeaps$Gathering" "spread" "I", Cond.methodLink RX2 78 yX3_take, Cond.instanceMethod yX3_take, Cond.selects RX3 yX3_take yX3_take, Cond.code yX3_take cX3_take 7 none, Cond.fieldLink RX3 11 "VoiceHeaps$Gathering" "sorted" "[[I", Cond.methodLink RX3 29 Lib.Math.max.name, Cond.static Lib.Math.max.name, Cond.initialized "java/lang/Math"]
def wsX11_worth_r4 : List Cond := [Cond.code Lib.Math.max.name Lib.Math.max.code 2 (some .int), Cond.methodLink RX2 68 yX2_addPieces, Cond.instanceMethod yX2_addPieces, Cond.selects RX2 yX2_addPieces yX2_addPieces, Cond.code yX2_addPieces cX2_addPieces 8 none, Cond.methodLink RX2 84 Lib.Math.max.name, Cond.methodLink RX2 90 Lib.Math.min.name, Cond.static Lib.Math.min.name, Cond.code Lib.Math.min.name Lib.Math.min.code 2 (some .int), Cond.fieldLink RX2 9 "VoiceHeaps$Cutting" "first" "[I", Cond.fieldLink RX2 15 "VoiceHeaps$Cutting" "size" "[I", Cond.fieldLink RX2 18 "VoiceHeaps$Cutting" "spread" "[I", Cond.fieldLink RX2 24 "VoiceHeaps$Cutting" "stretchOf" "[I", Cond.fieldLink RX2 21 "VoiceHeaps$Cutting" "middles" "[I", Cond.methodLink RX2 93 yX3_writeMiddle, Cond.instanceMethod yX3_writeMiddle, Cond.selects RX3 yX3_writeMiddle yX3_writeMiddle, Cond.code yX3_writeMiddle cX3_writeMiddle 4 none, Cond.methodLink RX11 306 yX1_tie, Cond.instanceMethod yX1_tie, Cond.selects RX1 yX1_tie yX1_tie, Cond.initialized RX1, Cond.code yX1_tie cX1_tie 7 none, Cond.methodLink RX1 29 Lib.Math.min.name]
def wsX11_worth_r5 : List Cond := [Cond.fieldLink RX1 35 "VoiceHeaps$Bonds" "pieces" "I", Cond.fieldLink RX1 11 "VoiceHeaps$Bonds" "bond" "[[I", Cond.methodLink RX1 36 yX2_likeness, Cond.instanceMethod yX2_likeness, Cond.selects RX2 yX2_likeness yX2_likeness, Cond.code yX2_likeness cX2_likeness 4 (some .int), Cond.static yX11_off, Cond.code yX11_off cX11_off 6 (some .int), Cond.methodLink RX11 326 Lib.Math.abs.name, Cond.static Lib.Math.abs.name, Cond.code Lib.Math.abs.name Lib.Math.abs.code 1 (some .int), Cond.methodLink RX1 40 yX2_doTouch, Cond.instanceMethod yX2_doTouch, Cond.selects RX2 yX2_doTouch yX2_doTouch, Cond.code yX2_doTouch cX2_doTouch 3 (some .boolean), Cond.methodLink RX2 100 Lib.Math.abs.name, Cond.methodLink RX1 44 yX1_fillGains, Cond.instanceMethod yX1_fillGains, Cond.selects RX1 yX1_fillGains yX1_fillGains, Cond.code yX1_fillGains cX1_fillGains 6 none, Cond.fieldLink RX1 19 "VoiceHeaps$Bonds" "gain" "[I", Cond.methodLink RX11 310 yX0_findBest, Cond.instanceMethod yX0_findBest, Cond.selects RX0 yX0_findBest yX0_findBest]
def wsX11_worth_r6 : List Cond := [Cond.initialized RX0, Cond.code yX0_findBest cX0_findBest 2 none, Cond.fieldLink RX0 25 "VoiceHeaps$AllHeapings" "isForNear" "Z", Cond.fieldLink RX0 12 "VoiceHeaps$AllHeapings" "best" "LVoiceHeaps$Heaping;", Cond.constant RX0 29 (-1000000000), Cond.fieldLink RX0 22 "VoiceHeaps$AllHeapings" "members" "[I", Cond.methodLink RX0 34 yJ7_fill_53178, Cond.methodLink RX0 40 yX0_deal, Cond.static yX0_deal, Cond.code yX0_deal cX0_deal 9 none, Cond.fieldLink RX0 18 "VoiceHeaps$AllHeapings" "heapOf" "[I", Cond.methodLink RX0 74 Lib.Math.max.name, Cond.methodLink RX0 70 yX0_meet, Cond.instanceMethod yX0_meet, Cond.selects RX0 yX0_meet yX0_meet, Cond.code yX0_meet cX0_meet 7 none, Cond.methodLink RX0 87 yX0_meetNear, Cond.instanceMethod yX0_meetNear, Cond.selects RX0 yX0_meetNear yX0_meetNear, Cond.code yX0_meetNear cX0_meetNear 5 none, Cond.fieldLink RX0 44 "VoiceHeaps$AllHeapings" "least" "I", Cond.fieldLink RX0 47 "VoiceHeaps$AllHeapings" "nearOnes" "I", Cond.fieldLink RX0 50 "VoiceHeaps$AllHeapings" "fewest" "I", Cond.methodLink RX0 95 Lib.Math.min.name]
def wsX11_worth_r7 : List Cond := [Cond.fieldLink RX0 53 "VoiceHeaps$AllHeapings" "most" "I", Cond.fieldLink RX0 58 "VoiceHeaps$AllHeapings" "always" "J", Cond.fieldLink RX0 62 "VoiceHeaps$AllHeapings" "ever" "J", Cond.methodLink RX0 80 yX1_gainOf, Cond.instanceMethod yX1_gainOf, Cond.selects RX1 yX1_gainOf yX1_gainOf, Cond.code yX1_gainOf cX1_gainOf 4 (some .int), Cond.methodLink RX0 83 yX0_placeOfPairs, Cond.static yX0_placeOfPairs, Cond.code yX0_placeOfPairs cX0_placeOfPairs 1 (some .int), Cond.methodLink RX11 314 yX4_findMiddles, Cond.instanceMethod yX4_findMiddles, Cond.selects RX4 yX4_findMiddles yX4_findMiddles, Cond.initialized RX4, Cond.code yX4_findMiddles cX4_findMiddles 7 none, Cond.fieldLink RX4 27 "VoiceHeaps$Heaping" "heaps" "I", Cond.fieldLink RX4 9 "VoiceHeaps$Heaping" "heapOf" "[I", Cond.fieldLink RX4 18 "VoiceHeaps$Heaping" "middles" "[I", Cond.methodLink RX4 31 yX3_empty, Cond.methodLink RX4 46 yX3_take, Cond.methodLink RX4 50 yX3_writeMiddle, Cond.methodLink RX11 318 yX1_join, Cond.instanceMethod yX1_join, Cond.selects RX1 yX1_join yX1_join]
def wsX11_worth_r8 : List Cond := [Cond.code yX1_join cX1_join 4 none, Cond.fieldLink RX1 16 "VoiceHeaps$Bonds" "link" "[[I", Cond.methodLink RX1 53 yX1_joinTwo, Cond.instanceMethod yX1_joinTwo, Cond.selects RX1 yX1_joinTwo yX1_joinTwo, Cond.code yX1_joinTwo cX1_joinTwo 7 (some .boolean), Cond.methodLink RX1 57 yX4_numberHeaps, Cond.instanceMethod yX4_numberHeaps, Cond.selects RX4 yX4_numberHeaps yX4_numberHeaps, Cond.code yX4_numberHeaps cX4_numberHeaps 4 none, Cond.fieldLink RX4 15 "VoiceHeaps$Heaping" "renamed" "[I", Cond.methodLink RX4 21 yJ7_fill_53178, Cond.methodLink RX1 60 yX1_worthOf, Cond.instanceMethod yX1_worthOf, Cond.selects RX1 yX1_worthOf yX1_worthOf, Cond.code yX1_worthOf cX1_worthOf 5 (some .int), Cond.methodLink RX11 194 yX11_byWay, Cond.instanceMethod yX11_byWay, Cond.selects RX11 yX11_byWay yX11_byWay, Cond.code yX11_byWay cX11_byWay 2 (some (.object "VoiceHeaps$Heaping"))]
def wsX11_worth : List Cond := .code yX11_worth cX11_worth 2 (some .int) :: ((wsX11_worth_r1 ++ (wsX11_worth_r2 ++ (wsX11_worth_r3 ++ (wsX11_worth_r4 ++ (wsX11_worth_r5 ++ (wsX11_worth_r6 ++ (wsX11_worth_r7 ++ wsX11_worth_r8))))))) ++ wsX40 ++ wsX110 ++ wsX20 ++ wsX00 ++ wsX80 ++ wsX70 ++ wsX30 ++ wsX10)
def wsX11_nearNow_r1 : List Cond := [Cond.fieldLink RX11 101 "VoiceHeaps" "nearIsOld" "Z", Cond.fieldLink RX11 47 "VoiceHeaps" "all" "LVoiceHeaps$AllHeapings;", Cond.fieldLink RX11 40 "VoiceHeaps" "bonds" "LVoiceHeaps$Bonds;", Cond.fieldLink RX11 10 "VoiceHeaps" "ruleText" "LVoiceHeaps$RuleText;", Cond.methodLink RX11 122 yX8_ruleNow, Cond.instanceMethod yX8_ruleNow, Cond.selects RX8 yX8_ruleNow yX8_ruleNow, Cond.initialized RX8, Cond.code yX8_ruleNow cX8_ruleNow 2 (some .int), Cond.fieldLink RX8 13 "VoiceHeaps$RuleText" "now" "[I", Cond.methodLink RX11 322 yX0_findNear, Cond.instanceMethod yX0_findNear, Cond.selects RX0 yX0_findNear yX0_findNear, Cond.initialized RX0, Cond.code yX0_findNear cX0_findNear 3 none, Cond.fieldLink RX0 25 "VoiceHeaps$AllHeapings" "isForNear" "Z", Cond.fieldLink RX0 12 "VoiceHeaps$AllHeapings" "best" "LVoiceHeaps$Heaping;", Cond.fieldLink RX0 44 "VoiceHeaps$AllHeapings" "least" "I", Cond.fieldLink RX0 47 "VoiceHeaps$AllHeapings" "nearOnes" "I", Cond.fieldLink RX0 50 "VoiceHeaps$AllHeapings" "fewest" "I", Cond.fieldLink RX0 53 "VoiceHeaps$AllHeapings" "most" "I", Cond.constantLong RX0 56 (-1), Cond.fieldLink RX0 58 "VoiceHeaps$AllHeapings" "always" "J", Cond.fieldLink RX0 62 "VoiceHeaps$AllHeapings" "ever" "J"]
def wsX11_nearNow_r2 : List Cond := [Cond.fieldLink RX0 22 "VoiceHeaps$AllHeapings" "members" "[I", Cond.methodLink RX0 34 yJ7_fill_53178, Cond.static yJ7_fill_53178, Cond.initialized RJ7, Cond.code yJ7_fill_53178 cJ7_fill_53178 4 none, Cond.methodLink RX0 40 yX0_deal, Cond.static yX0_deal, Cond.code yX0_deal cX0_deal 9 none, Cond.fieldLink RX0 18 "VoiceHeaps$AllHeapings" "heapOf" "[I", Cond.methodLink RX0 74 Lib.Math.max.name, Cond.static Lib.Math.max.name, Cond.initialized "java/lang/Math", Cond.code Lib.Math.max.name Lib.Math.max.code 2 (some .int), Cond.methodLink RX0 70 yX0_meet, Cond.instanceMethod yX0_meet, Cond.selects RX0 yX0_meet yX0_meet, Cond.code yX0_meet cX0_meet 7 none, Cond.methodLink RX0 87 yX0_meetNear, Cond.instanceMethod yX0_meetNear, Cond.selects RX0 yX0_meetNear yX0_meetNear, Cond.code yX0_meetNear cX0_meetNear 5 none, Cond.methodLink RX0 95 Lib.Math.min.name, Cond.static Lib.Math.min.name, Cond.code Lib.Math.min.name Lib.Math.min.code 2 (some .int)]
def wsX11_nearNow_r3 : List Cond := [Cond.methodLink RX0 80 yX1_gainOf, Cond.instanceMethod yX1_gainOf, Cond.selects RX1 yX1_gainOf yX1_gainOf, Cond.initialized RX1, Cond.code yX1_gainOf cX1_gainOf 4 (some .int), Cond.fieldLink RX1 19 "VoiceHeaps$Bonds" "gain" "[I", Cond.methodLink RX0 83 yX0_placeOfPairs, Cond.static yX0_placeOfPairs, Cond.code yX0_placeOfPairs cX0_placeOfPairs 1 (some .int)]
def wsX11_nearNow : List Cond := .code yX11_nearNow cX11_nearNow 1 none :: ((wsX11_nearNow_r1 ++ (wsX11_nearNow_r2 ++ wsX11_nearNow_r3)) ++ wsX110 ++ wsX80 ++ wsX00 ++ wsX40 ++ wsX10)
def wsX11_near_r1 : List Cond := [Cond.fieldLink RX11 47 "VoiceHeaps" "all" "LVoiceHeaps$AllHeapings;", Cond.methodLink RX11 104 yX11_within, Cond.static yX11_within, Cond.initialized RX11, Cond.code yX11_within cX11_within 3 (some .boolean), Cond.methodLink RX11 190 yX11_heapNow, Cond.instanceMethod yX11_heapNow, Cond.selects RX11 yX11_heapNow yX11_heapNow, Cond.code yX11_heapNow cX11_heapNow 1 (some .boolean), Cond.fieldLink RX11 33 "VoiceHeaps" "cutting" "LVoiceHeaps$Cutting;", Cond.fieldLink RX11 98 "VoiceHeaps" "heapsAreOld" "Z", Cond.fieldLink RX11 40 "VoiceHeaps" "bonds" "LVoiceHeaps$Bonds;", Cond.fieldLink RX11 10 "VoiceHeaps" "ruleText" "LVoiceHeaps$RuleText;", Cond.fieldLink RX11 19 "VoiceHeaps" "book" "LVoiceHeaps$RowBook;", Cond.fieldLink RX11 26 "VoiceHeaps" "gathering" "LVoiceHeaps$Gathering;", Cond.fieldLink RX11 54 "VoiceHeaps" "joined" "LVoiceHeaps$Heaping;", Cond.methodLink RX11 151 yX11_cutNow, Cond.instanceMethod yX11_cutNow, Cond.selects RX11 yX11_cutNow yX11_cutNow, Cond.code yX11_cutNow cX11_cutNow 1 none, Cond.fieldLink RX11 94 "VoiceHeaps" "cutIsOld" "Z", Cond.methodLink RX11 122 yX8_ruleNow, Cond.instanceMethod yX8_ruleNow, Cond.selects RX8 yX8_ruleNow yX8_ruleNow]
def wsX11_near_r2 : List Cond := [Cond.initialized RX8, Cond.code yX8_ruleNow cX8_ruleNow 2 (some .int), Cond.fieldLink RX8 13 "VoiceHeaps$RuleText" "now" "[I", Cond.methodLink RX11 302 yX2_cut, Cond.instanceMethod yX2_cut, Cond.selects RX2 yX2_cut yX2_cut, Cond.initialized RX2, Cond.code yX2_cut cX2_cut 7 none, Cond.fieldLink RX2 36 "VoiceHeaps$Cutting" "pieces" "I", Cond.fieldLink RX2 40 "VoiceHeaps$Cutting" "stretches" "I", Cond.fieldLink RX2 43 "VoiceHeaps$Cutting" "total" "I", Cond.fieldLink RX2 46 "VoiceHeaps$Cutting" "heardRows" "I", Cond.fieldLink RX2 27 "VoiceHeaps$Cutting" "pieceOf" "[I", Cond.fieldLink RX2 30 "VoiceHeaps$Cutting" "cost" "[I", Cond.methodLink RX2 49 yJ7_fill_53178, Cond.static yJ7_fill_53178, Cond.initialized RJ7, Cond.code yJ7_fill_53178 cJ7_fill_53178 4 none, Cond.methodLink RX2 60 yX7_isHeard, Cond.instanceMethod yX7_isHeard, Cond.selects RX7 yX7_isHeard yX7_isHeard, Cond.initialized RX7, Cond.code yX7_isHeard cX7_isHeard 5 (some .boolean), Cond.fieldLink RX7 15 "VoiceHeaps$RowBook" "isDeaf" "[Z"]
def wsX11_near_r3 : List Cond := [Cond.fieldLink RX7 19 "VoiceHeaps$RowBook" "isOut" "[Z", Cond.fieldLink RX7 9 "VoiceHeaps$RowBook" "numbers" "[I", Cond.methodLink RX2 64 yX2_findCosts, Cond.instanceMethod yX2_findCosts, Cond.selects RX2 yX2_findCosts yX2_findCosts, Cond.code yX2_findCosts cX2_findCosts 9 none, Cond.constant RX2 77 (1000000000), Cond.fieldLink RX2 33 "VoiceHeaps$Cutting" "most" "[I", Cond.methodLink RX2 72 yX3_empty, Cond.instanceMethod yX3_empty, Cond.selects RX3 yX3_empty yX3_empty, Cond.initialized RX3, Cond.code yX3_empty cX3_empty 1 none, Cond.fieldLink RX3 16 "VoiceHeaps$Gathering" "rows" "I", Cond.fieldLink RX3 20 "VoiceHeaps$Gathering" "spread" "I", Cond.methodLink RX2 78 yX3_take, Cond.instanceMethod yX3_take, Cond.selects RX3 yX3_take yX3_take, Cond.code yX3_take cX3_take 7 none, Cond.fieldLink RX3 11 "VoiceHeaps$Gathering" "sorted" "[[I", Cond.methodLink RX3 29 Lib.Math.max.name, Cond.static Lib.Math.max.name, Cond.initialized "java/lang/Math", Cond.code Lib.Math.max.name Lib.Math.max.code 2 (some .int)]
def wsX11_near_r4 : List Cond := [Cond.methodLink RX2 68 yX2_addPieces, Cond.instanceMethod yX2_addPieces, Cond.selects RX2 yX2_addPieces yX2_addPieces, Cond.code yX2_addPieces cX2_addPieces 8 none, Cond.methodLink RX2 84 Lib.Math.max.name, Cond.methodLink RX2 90 Lib.Math.min.name, Cond.static Lib.Math.min.name, Cond.code Lib.Math.min.name Lib.Math.min.code 2 (some .int), Cond.fieldLink RX2 9 "VoiceHeaps$Cutting" "first" "[I", Cond.fieldLink RX2 15 "VoiceHeaps$Cutting" "size" "[I", Cond.fieldLink RX2 18 "VoiceHeaps$Cutting" "spread" "[I", Cond.fieldLink RX2 24 "VoiceHeaps$Cutting" "stretchOf" "[I", Cond.fieldLink RX2 21 "VoiceHeaps$Cutting" "middles" "[I", Cond.methodLink RX2 93 yX3_writeMiddle, Cond.instanceMethod yX3_writeMiddle, Cond.selects RX3 yX3_writeMiddle yX3_writeMiddle, Cond.code yX3_writeMiddle cX3_writeMiddle 4 none, Cond.methodLink RX11 306 yX1_tie, Cond.instanceMethod yX1_tie, Cond.selects RX1 yX1_tie yX1_tie, Cond.initialized RX1, Cond.code yX1_tie cX1_tie 7 none, Cond.methodLink RX1 29 Lib.Math.min.name, Cond.fieldLink RX1 35 "VoiceHeaps$Bonds" "pieces" "I"]
def wsX11_near_r5 : List Cond := [Cond.fieldLink RX1 11 "VoiceHeaps$Bonds" "bond" "[[I", Cond.methodLink RX1 36 yX2_likeness, Cond.instanceMethod yX2_likeness, Cond.selects RX2 yX2_likeness yX2_likeness, Cond.code yX2_likeness cX2_likeness 4 (some .int), Cond.static yX11_off, Cond.code yX11_off cX11_off 6 (some .int), Cond.methodLink RX11 326 Lib.Math.abs.name, Cond.static Lib.Math.abs.name, Cond.code Lib.Math.abs.name Lib.Math.abs.code 1 (some .int), Cond.methodLink RX1 40 yX2_doTouch, Cond.instanceMethod yX2_doTouch, Cond.selects RX2 yX2_doTouch yX2_doTouch, Cond.code yX2_doTouch cX2_doTouch 3 (some .boolean), Cond.methodLink RX2 100 Lib.Math.abs.name, Cond.methodLink RX1 44 yX1_fillGains, Cond.instanceMethod yX1_fillGains, Cond.selects RX1 yX1_fillGains yX1_fillGains, Cond.code yX1_fillGains cX1_fillGains 6 none, Cond.fieldLink RX1 19 "VoiceHeaps$Bonds" "gain" "[I", Cond.methodLink RX11 310 yX0_findBest, Cond.instanceMethod yX0_findBest, Cond.selects RX0 yX0_findBest yX0_findBest, Cond.initialized RX0]
def wsX11_near_r6 : List Cond := [Cond.code yX0_findBest cX0_findBest 2 none, Cond.fieldLink RX0 25 "VoiceHeaps$AllHeapings" "isForNear" "Z", Cond.fieldLink RX0 12 "VoiceHeaps$AllHeapings" "best" "LVoiceHeaps$Heaping;", Cond.constant RX0 29 (-1000000000), Cond.fieldLink RX0 22 "VoiceHeaps$AllHeapings" "members" "[I", Cond.methodLink RX0 34 yJ7_fill_53178, Cond.methodLink RX0 40 yX0_deal, Cond.static yX0_deal, Cond.code yX0_deal cX0_deal 9 none, Cond.fieldLink RX0 18 "VoiceHeaps$AllHeapings" "heapOf" "[I", Cond.methodLink RX0 74 Lib.Math.max.name, Cond.methodLink RX0 70 yX0_meet, Cond.instanceMethod yX0_meet, Cond.selects RX0 yX0_meet yX0_meet, Cond.code yX0_meet cX0_meet 7 none, Cond.methodLink RX0 87 yX0_meetNear, Cond.instanceMethod yX0_meetNear, Cond.selects RX0 yX0_meetNear yX0_meetNear, Cond.code yX0_meetNear cX0_meetNear 5 none, Cond.fieldLink RX0 44 "VoiceHeaps$AllHeapings" "least" "I", Cond.fieldLink RX0 47 "VoiceHeaps$AllHeapings" "nearOnes" "I", Cond.fieldLink RX0 50 "VoiceHeaps$AllHeapings" "fewest" "I", Cond.methodLink RX0 95 Lib.Math.min.name, Cond.fieldLink RX0 53 "VoiceHeaps$AllHeapings" "most" "I"]
def wsX11_near_r7 : List Cond := [Cond.fieldLink RX0 58 "VoiceHeaps$AllHeapings" "always" "J", Cond.fieldLink RX0 62 "VoiceHeaps$AllHeapings" "ever" "J", Cond.methodLink RX0 80 yX1_gainOf, Cond.instanceMethod yX1_gainOf, Cond.selects RX1 yX1_gainOf yX1_gainOf, Cond.code yX1_gainOf cX1_gainOf 4 (some .int), Cond.methodLink RX0 83 yX0_placeOfPairs, Cond.static yX0_placeOfPairs, Cond.code yX0_placeOfPairs cX0_placeOfPairs 1 (some .int), Cond.methodLink RX11 314 yX4_findMiddles, Cond.instanceMethod yX4_findMiddles, Cond.selects RX4 yX4_findMiddles yX4_findMiddles, Cond.initialized RX4, Cond.code yX4_findMiddles cX4_findMiddles 7 none, Cond.fieldLink RX4 27 "VoiceHeaps$Heaping" "heaps" "I", Cond.fieldLink RX4 9 "VoiceHeaps$Heaping" "heapOf" "[I", Cond.fieldLink RX4 18 "VoiceHeaps$Heaping" "middles" "[I", Cond.methodLink RX4 31 yX3_empty, Cond.methodLink RX4 46 yX3_take, Cond.methodLink RX4 50 yX3_writeMiddle, Cond.methodLink RX11 318 yX1_join, Cond.instanceMethod yX1_join, Cond.selects RX1 yX1_join yX1_join, Cond.code yX1_join cX1_join 4 none]
def wsX11_near_r8 : List Cond := [Cond.fieldLink RX1 16 "VoiceHeaps$Bonds" "link" "[[I", Cond.methodLink RX1 53 yX1_joinTwo, Cond.instanceMethod yX1_joinTwo, Cond.selects RX1 yX1_joinTwo yX1_joinTwo, Cond.code yX1_joinTwo cX1_joinTwo 7 (some .boolean), Cond.methodLink RX1 57 yX4_numberHeaps, Cond.instanceMethod yX4_numberHeaps, Cond.selects RX4 yX4_numberHeaps yX4_numberHeaps, Cond.code yX4_numberHeaps cX4_numberHeaps 4 none, Cond.fieldLink RX4 15 "VoiceHeaps$Heaping" "renamed" "[I", Cond.methodLink RX4 21 yJ7_fill_53178, Cond.methodLink RX1 60 yX1_worthOf, Cond.instanceMethod yX1_worthOf, Cond.selects RX1 yX1_worthOf yX1_worthOf, Cond.code yX1_worthOf cX1_worthOf 5 (some .int), Cond.methodLink RX11 194 yX11_byWay, Cond.instanceMethod yX11_byWay, Cond.selects RX11 yX11_byWay yX11_byWay, Cond.code yX11_byWay cX11_byWay 2 (some (.object "VoiceHeaps$Heaping")), Cond.methodLink RX11 207 yX11_nearNow, Cond.instanceMethod yX11_nearNow, Cond.selects RX11 yX11_nearNow yX11_nearNow, Cond.code yX11_nearNow cX11_nearNow 1 none, Cond.fieldLink RX11 101 "VoiceHeaps" "nearIsOld" "Z"]
def wsX11_near_r9 : List Cond := [Cond.methodLink RX11 322 yX0_findNear, Cond.instanceMethod yX0_findNear, Cond.selects RX0 yX0_findNear yX0_findNear, Cond.code yX0_findNear cX0_findNear 3 none, Cond.constantLong RX0 56 (-1)]
def wsX11_near : List Cond := .code yX11_near cX11_near 2 (some .int) :: ((wsX11_near_r1 ++ (wsX11_near_r2 ++ (wsX11_near_r3 ++ (wsX11_near_r4 ++ (wsX11_near_r5 ++ (wsX11_near_r6 ++ (wsX11_near_r7 ++ (wsX11_near_r8 ++ wsX11_near_r9)))))))) ++ wsX40 ++ wsX110 ++ wsX00 ++ wsX20 ++ wsX80 ++ wsX70 ++ wsX30 ++ wsX10)
def wsX11_sure_r1 : List Cond := [Cond.fieldLink RX11 47 "VoiceHeaps" "all" "LVoiceHeaps$AllHeapings;", Cond.methodLink RX11 166 yX11_isPiece, Cond.instanceMethod yX11_isPiece, Cond.selects RX11 yX11_isPiece yX11_isPiece, Cond.initialized RX11, Cond.code yX11_isPiece cX11_isPiece 2 (some .boolean), Cond.fieldLink RX11 33 "VoiceHeaps" "cutting" "LVoiceHeaps$Cutting;", Cond.methodLink RX11 151 yX11_cutNow, Cond.instanceMethod yX11_cutNow, Cond.selects RX11 yX11_cutNow yX11_cutNow, Cond.code yX11_cutNow cX11_cutNow 1 none, Cond.fieldLink RX11 94 "VoiceHeaps" "cutIsOld" "Z", Cond.fieldLink RX11 19 "VoiceHeaps" "book" "LVoiceHeaps$RowBook;", Cond.fieldLink RX11 26 "VoiceHeaps" "gathering" "LVoiceHeaps$Gathering;", Cond.fieldLink RX11 10 "VoiceHeaps" "ruleText" "LVoiceHeaps$RuleText;", Cond.methodLink RX11 122 yX8_ruleNow, Cond.instanceMethod yX8_ruleNow, Cond.selects RX8 yX8_ruleNow yX8_ruleNow, Cond.initialized RX8, Cond.code yX8_ruleNow cX8_ruleNow 2 (some .int), Cond.fieldLink RX8 13 "VoiceHeaps$RuleText" "now" "[I", Cond.methodLink RX11 302 yX2_cut, Cond.instanceMethod yX2_cut, Cond.selects RX2 yX2_cut yX2_cut]
def wsX11_sure_r2 : List Cond := [Cond.initialized RX2, Cond.code yX2_cut cX2_cut 7 none, Cond.fieldLink RX2 36 "VoiceHeaps$Cutting" "pieces" "I", Cond.fieldLink RX2 40 "VoiceHeaps$Cutting" "stretches" "I", Cond.fieldLink RX2 43 "VoiceHeaps$Cutting" "total" "I", Cond.fieldLink RX2 46 "VoiceHeaps$Cutting" "heardRows" "I", Cond.fieldLink RX2 27 "VoiceHeaps$Cutting" "pieceOf" "[I", Cond.fieldLink RX2 30 "VoiceHeaps$Cutting" "cost" "[I", Cond.methodLink RX2 49 yJ7_fill_53178, Cond.static yJ7_fill_53178, Cond.initialized RJ7, Cond.code yJ7_fill_53178 cJ7_fill_53178 4 none, Cond.methodLink RX2 60 yX7_isHeard, Cond.instanceMethod yX7_isHeard, Cond.selects RX7 yX7_isHeard yX7_isHeard, Cond.initialized RX7, Cond.code yX7_isHeard cX7_isHeard 5 (some .boolean), Cond.fieldLink RX7 15 "VoiceHeaps$RowBook" "isDeaf" "[Z", Cond.fieldLink RX7 19 "VoiceHeaps$RowBook" "isOut" "[Z", Cond.fieldLink RX7 9 "VoiceHeaps$RowBook" "numbers" "[I", Cond.methodLink RX2 64 yX2_findCosts, Cond.instanceMethod yX2_findCosts, Cond.selects RX2 yX2_findCosts yX2_findCosts, Cond.code yX2_findCosts cX2_findCosts 9 none]
def wsX11_sure_r3 : List Cond := [Cond.constant RX2 77 (1000000000), Cond.fieldLink RX2 33 "VoiceHeaps$Cutting" "most" "[I", Cond.methodLink RX2 72 yX3_empty, Cond.instanceMethod yX3_empty, Cond.selects RX3 yX3_empty yX3_empty, Cond.initialized RX3, Cond.code yX3_empty cX3_empty 1 none, Cond.fieldLink RX3 16 "VoiceHeaps$Gathering" "rows" "I", Cond.fieldLink RX3 20 "VoiceHeaps$Gathering" "spread" "I", Cond.methodLink RX2 78 yX3_take, Cond.instanceMethod yX3_take, Cond.selects RX3 yX3_take yX3_take, Cond.code yX3_take cX3_take 7 none, Cond.fieldLink RX3 11 "VoiceHeaps$Gathering" "sorted" "[[I", Cond.methodLink RX3 29 Lib.Math.max.name, Cond.static Lib.Math.max.name, Cond.initialized "java/lang/Math", Cond.code Lib.Math.max.name Lib.Math.max.code 2 (some .int), Cond.methodLink RX2 68 yX2_addPieces, Cond.instanceMethod yX2_addPieces, Cond.selects RX2 yX2_addPieces yX2_addPieces, Cond.code yX2_addPieces cX2_addPieces 8 none, Cond.methodLink RX2 84 Lib.Math.max.name, Cond.methodLink RX2 90 Lib.Math.min.name]
def wsX11_sure_r4 : List Cond := [Cond.static Lib.Math.min.name, Cond.code Lib.Math.min.name Lib.Math.min.code 2 (some .int), Cond.fieldLink RX2 9 "VoiceHeaps$Cutting" "first" "[I", Cond.fieldLink RX2 15 "VoiceHeaps$Cutting" "size" "[I", Cond.fieldLink RX2 18 "VoiceHeaps$Cutting" "spread" "[I", Cond.fieldLink RX2 24 "VoiceHeaps$Cutting" "stretchOf" "[I", Cond.fieldLink RX2 21 "VoiceHeaps$Cutting" "middles" "[I", Cond.methodLink RX2 93 yX3_writeMiddle, Cond.instanceMethod yX3_writeMiddle, Cond.selects RX3 yX3_writeMiddle yX3_writeMiddle, Cond.code yX3_writeMiddle cX3_writeMiddle 4 none, Cond.methodLink RX11 104 yX11_within, Cond.static yX11_within, Cond.code yX11_within cX11_within 3 (some .boolean), Cond.methodLink RX11 190 yX11_heapNow, Cond.instanceMethod yX11_heapNow, Cond.selects RX11 yX11_heapNow yX11_heapNow, Cond.code yX11_heapNow cX11_heapNow 1 (some .boolean), Cond.fieldLink RX11 98 "VoiceHeaps" "heapsAreOld" "Z", Cond.fieldLink RX11 40 "VoiceHeaps" "bonds" "LVoiceHeaps$Bonds;", Cond.fieldLink RX11 54 "VoiceHeaps" "joined" "LVoiceHeaps$Heaping;", Cond.methodLink RX11 306 yX1_tie, Cond.instanceMethod yX1_tie, Cond.selects RX1 yX1_tie yX1_tie]
def wsX11_sure_r5 : List Cond := [Cond.initialized RX1, Cond.code yX1_tie cX1_tie 7 none, Cond.methodLink RX1 29 Lib.Math.min.name, Cond.fieldLink RX1 35 "VoiceHeaps$Bonds" "pieces" "I", Cond.fieldLink RX1 11 "VoiceHeaps$Bonds" "bond" "[[I", Cond.methodLink RX1 36 yX2_likeness, Cond.instanceMethod yX2_likeness, Cond.selects RX2 yX2_likeness yX2_likeness, Cond.code yX2_likeness cX2_likeness 4 (some .int), Cond.static yX11_off, Cond.code yX11_off cX11_off 6 (some .int), Cond.methodLink RX11 326 Lib.Math.abs.name, Cond.static Lib.Math.abs.name, Cond.code Lib.Math.abs.name Lib.Math.abs.code 1 (some .int), Cond.methodLink RX1 40 yX2_doTouch, Cond.instanceMethod yX2_doTouch, Cond.selects RX2 yX2_doTouch yX2_doTouch, Cond.code yX2_doTouch cX2_doTouch 3 (some .boolean), Cond.methodLink RX2 100 Lib.Math.abs.name, Cond.methodLink RX1 44 yX1_fillGains, Cond.instanceMethod yX1_fillGains, Cond.selects RX1 yX1_fillGains yX1_fillGains, Cond.code yX1_fillGains cX1_fillGains 6 none, Cond.fieldLink RX1 19 "VoiceHeaps$Bonds" "gain" "[I"]
def wsX11_sure_r6 : List Cond := [Cond.methodLink RX11 310 yX0_findBest, Cond.instanceMethod yX0_findBest, Cond.selects RX0 yX0_findBest yX0_findBest, Cond.initialized RX0, Cond.code yX0_findBest cX0_findBest 2 none, Cond.fieldLink RX0 25 "VoiceHeaps$AllHeapings" "isForNear" "Z", Cond.fieldLink RX0 12 "VoiceHeaps$AllHeapings" "best" "LVoiceHeaps$Heaping;", Cond.constant RX0 29 (-1000000000), Cond.fieldLink RX0 22 "VoiceHeaps$AllHeapings" "members" "[I", Cond.methodLink RX0 34 yJ7_fill_53178, Cond.methodLink RX0 40 yX0_deal, Cond.static yX0_deal, Cond.code yX0_deal cX0_deal 9 none, Cond.fieldLink RX0 18 "VoiceHeaps$AllHeapings" "heapOf" "[I", Cond.methodLink RX0 74 Lib.Math.max.name, Cond.methodLink RX0 70 yX0_meet, Cond.instanceMethod yX0_meet, Cond.selects RX0 yX0_meet yX0_meet, Cond.code yX0_meet cX0_meet 7 none, Cond.methodLink RX0 87 yX0_meetNear, Cond.instanceMethod yX0_meetNear, Cond.selects RX0 yX0_meetNear yX0_meetNear, Cond.code yX0_meetNear cX0_meetNear 5 none, Cond.fieldLink RX0 44 "VoiceHeaps$AllHeapings" "least" "I"]
def wsX11_sure_r7 : List Cond := [Cond.fieldLink RX0 47 "VoiceHeaps$AllHeapings" "nearOnes" "I", Cond.fieldLink RX0 50 "VoiceHeaps$AllHeapings" "fewest" "I", Cond.methodLink RX0 95 Lib.Math.min.name, Cond.fieldLink RX0 53 "VoiceHeaps$AllHeapings" "most" "I", Cond.fieldLink RX0 58 "VoiceHeaps$AllHeapings" "always" "J", Cond.fieldLink RX0 62 "VoiceHeaps$AllHeapings" "ever" "J", Cond.methodLink RX0 80 yX1_gainOf, Cond.instanceMethod yX1_gainOf, Cond.selects RX1 yX1_gainOf yX1_gainOf, Cond.code yX1_gainOf cX1_gainOf 4 (some .int), Cond.methodLink RX0 83 yX0_placeOfPairs, Cond.static yX0_placeOfPairs, Cond.code yX0_placeOfPairs cX0_placeOfPairs 1 (some .int), Cond.methodLink RX11 314 yX4_findMiddles, Cond.instanceMethod yX4_findMiddles, Cond.selects RX4 yX4_findMiddles yX4_findMiddles, Cond.initialized RX4, Cond.code yX4_findMiddles cX4_findMiddles 7 none, Cond.fieldLink RX4 27 "VoiceHeaps$Heaping" "heaps" "I", Cond.fieldLink RX4 9 "VoiceHeaps$Heaping" "heapOf" "[I", Cond.fieldLink RX4 18 "VoiceHeaps$Heaping" "middles" "[I", Cond.methodLink RX4 31 yX3_empty, Cond.methodLink RX4 46 yX3_take, Cond.methodLink RX4 50 yX3_writeMiddle]
def wsX11_sure_r8 : List Cond := [Cond.methodLink RX11 318 yX1_join, Cond.instanceMethod yX1_join, Cond.selects RX1 yX1_join yX1_join, Cond.code yX1_join cX1_join 4 none, Cond.fieldLink RX1 16 "VoiceHeaps$Bonds" "link" "[[I", Cond.methodLink RX1 53 yX1_joinTwo, Cond.instanceMethod yX1_joinTwo, Cond.selects RX1 yX1_joinTwo yX1_joinTwo, Cond.code yX1_joinTwo cX1_joinTwo 7 (some .boolean), Cond.methodLink RX1 57 yX4_numberHeaps, Cond.instanceMethod yX4_numberHeaps, Cond.selects RX4 yX4_numberHeaps yX4_numberHeaps, Cond.code yX4_numberHeaps cX4_numberHeaps 4 none, Cond.fieldLink RX4 15 "VoiceHeaps$Heaping" "renamed" "[I", Cond.methodLink RX4 21 yJ7_fill_53178, Cond.methodLink RX1 60 yX1_worthOf, Cond.instanceMethod yX1_worthOf, Cond.selects RX1 yX1_worthOf yX1_worthOf, Cond.code yX1_worthOf cX1_worthOf 5 (some .int), Cond.methodLink RX11 207 yX11_nearNow, Cond.instanceMethod yX11_nearNow, Cond.selects RX11 yX11_nearNow yX11_nearNow, Cond.code yX11_nearNow cX11_nearNow 1 none, Cond.fieldLink RX11 101 "VoiceHeaps" "nearIsOld" "Z"]
def wsX11_sure_r9 : List Cond := [Cond.methodLink RX11 322 yX0_findNear, Cond.instanceMethod yX0_findNear, Cond.selects RX0 yX0_findNear yX0_findNear, Cond.code yX0_findNear cX0_findNear 3 none, Cond.constantLong RX0 56 (-1), Cond.methodLink RX11 219 yX0_sureness, Cond.instanceMethod yX0_sureness, Cond.selects RX0 yX0_sureness yX0_sureness, Cond.code yX0_sureness cX0_sureness 5 (some .int)]
def wsX11_sure : List Cond := .code yX11_sure cX11_sure 3 (some .int) :: ((wsX11_sure_r1 ++ (wsX11_sure_r2 ++ (wsX11_sure_r3 ++ (wsX11_sure_r4 ++ (wsX11_sure_r5 ++ (wsX11_sure_r6 ++ (wsX11_sure_r7 ++ (wsX11_sure_r8 ++ wsX11_sure_r9)))))))) ++ wsX110 ++ wsX20 ++ wsX80 ++ wsX70 ++ wsX30 ++ wsX00 ++ wsX10 ++ wsX40)
def wsX11_isHeapNumber : List Cond := .code yX11_isHeapNumber cX11_isHeapNumber 1 (some .boolean) :: ([.methodLink RX11 104 yX11_within, .static yX11_within, .initialized RX11, .code yX11_within cX11_within 3 (some .boolean)])
def wsX11_refusedHeap_r1 : List Cond := [Cond.fieldLink RX11 47 "VoiceHeaps" "all" "LVoiceHeaps$AllHeapings;", Cond.methodLink RX11 190 yX11_heapNow, Cond.instanceMethod yX11_heapNow, Cond.selects RX11 yX11_heapNow yX11_heapNow, Cond.initialized RX11, Cond.code yX11_heapNow cX11_heapNow 1 (some .boolean), Cond.fieldLink RX11 33 "VoiceHeaps" "cutting" "LVoiceHeaps$Cutting;", Cond.fieldLink RX11 98 "VoiceHeaps" "heapsAreOld" "Z", Cond.fieldLink RX11 40 "VoiceHeaps" "bonds" "LVoiceHeaps$Bonds;", Cond.fieldLink RX11 10 "VoiceHeaps" "ruleText" "LVoiceHeaps$RuleText;", Cond.fieldLink RX11 19 "VoiceHeaps" "book" "LVoiceHeaps$RowBook;", Cond.fieldLink RX11 26 "VoiceHeaps" "gathering" "LVoiceHeaps$Gathering;", Cond.fieldLink RX11 54 "VoiceHeaps" "joined" "LVoiceHeaps$Heaping;", Cond.methodLink RX11 151 yX11_cutNow, Cond.instanceMethod yX11_cutNow, Cond.selects RX11 yX11_cutNow yX11_cutNow, Cond.code yX11_cutNow cX11_cutNow 1 none, Cond.fieldLink RX11 94 "VoiceHeaps" "cutIsOld" "Z", Cond.methodLink RX11 122 yX8_ruleNow, Cond.instanceMethod yX8_ruleNow, Cond.selects RX8 yX8_ruleNow yX8_ruleNow, Cond.initialized RX8, Cond.code yX8_ruleNow cX8_ruleNow 2 (some .int), Cond.fieldLink RX8 13 "VoiceHeaps$RuleText" "now" "[I"]
def wsX11_refusedHeap_r2 : List Cond := [Cond.methodLink RX11 302 yX2_cut, Cond.instanceMethod yX2_cut, Cond.selects RX2 yX2_cut yX2_cut, Cond.initialized RX2, Cond.code yX2_cut cX2_cut 7 none, Cond.fieldLink RX2 36 "VoiceHeaps$Cutting" "pieces" "I", Cond.fieldLink RX2 40 "VoiceHeaps$Cutting" "stretches" "I", Cond.fieldLink RX2 43 "VoiceHeaps$Cutting" "total" "I", Cond.fieldLink RX2 46 "VoiceHeaps$Cutting" "heardRows" "I", Cond.fieldLink RX2 27 "VoiceHeaps$Cutting" "pieceOf" "[I", Cond.fieldLink RX2 30 "VoiceHeaps$Cutting" "cost" "[I", Cond.methodLink RX2 49 yJ7_fill_53178, Cond.static yJ7_fill_53178, Cond.initialized RJ7, Cond.code yJ7_fill_53178 cJ7_fill_53178 4 none, Cond.methodLink RX2 60 yX7_isHeard, Cond.instanceMethod yX7_isHeard, Cond.selects RX7 yX7_isHeard yX7_isHeard, Cond.initialized RX7, Cond.code yX7_isHeard cX7_isHeard 5 (some .boolean), Cond.fieldLink RX7 15 "VoiceHeaps$RowBook" "isDeaf" "[Z", Cond.fieldLink RX7 19 "VoiceHeaps$RowBook" "isOut" "[Z", Cond.fieldLink RX7 9 "VoiceHeaps$RowBook" "numbers" "[I", Cond.methodLink RX2 64 yX2_findCosts]
def wsX11_refusedHeap_r3 : List Cond := [Cond.instanceMethod yX2_findCosts, Cond.selects RX2 yX2_findCosts yX2_findCosts, Cond.code yX2_findCosts cX2_findCosts 9 none, Cond.constant RX2 77 (1000000000), Cond.fieldLink RX2 33 "VoiceHeaps$Cutting" "most" "[I", Cond.methodLink RX2 72 yX3_empty, Cond.instanceMethod yX3_empty, Cond.selects RX3 yX3_empty yX3_empty, Cond.initialized RX3, Cond.code yX3_empty cX3_empty 1 none, Cond.fieldLink RX3 16 "VoiceHeaps$Gathering" "rows" "I", Cond.fieldLink RX3 20 "VoiceHeaps$Gathering" "spread" "I", Cond.methodLink RX2 78 yX3_take, Cond.instanceMethod yX3_take, Cond.selects RX3 yX3_take yX3_take, Cond.code yX3_take cX3_take 7 none, Cond.fieldLink RX3 11 "VoiceHeaps$Gathering" "sorted" "[[I", Cond.methodLink RX3 29 Lib.Math.max.name, Cond.static Lib.Math.max.name, Cond.initialized "java/lang/Math", Cond.code Lib.Math.max.name Lib.Math.max.code 2 (some .int), Cond.methodLink RX2 68 yX2_addPieces, Cond.instanceMethod yX2_addPieces, Cond.selects RX2 yX2_addPieces yX2_addPieces]
def wsX11_refusedHeap_r4 : List Cond := [Cond.code yX2_addPieces cX2_addPieces 8 none, Cond.methodLink RX2 84 Lib.Math.max.name, Cond.methodLink RX2 90 Lib.Math.min.name, Cond.static Lib.Math.min.name, Cond.code Lib.Math.min.name Lib.Math.min.code 2 (some .int), Cond.fieldLink RX2 9 "VoiceHeaps$Cutting" "first" "[I", Cond.fieldLink RX2 15 "VoiceHeaps$Cutting" "size" "[I", Cond.fieldLink RX2 18 "VoiceHeaps$Cutting" "spread" "[I", Cond.fieldLink RX2 24 "VoiceHeaps$Cutting" "stretchOf" "[I", Cond.fieldLink RX2 21 "VoiceHeaps$Cutting" "middles" "[I", Cond.methodLink RX2 93 yX3_writeMiddle, Cond.instanceMethod yX3_writeMiddle, Cond.selects RX3 yX3_writeMiddle yX3_writeMiddle, Cond.code yX3_writeMiddle cX3_writeMiddle 4 none, Cond.methodLink RX11 306 yX1_tie, Cond.instanceMethod yX1_tie, Cond.selects RX1 yX1_tie yX1_tie, Cond.initialized RX1, Cond.code yX1_tie cX1_tie 7 none, Cond.methodLink RX1 29 Lib.Math.min.name, Cond.fieldLink RX1 35 "VoiceHeaps$Bonds" "pieces" "I", Cond.fieldLink RX1 11 "VoiceHeaps$Bonds" "bond" "[[I", Cond.methodLink RX1 36 yX2_likeness, Cond.instanceMethod yX2_likeness]
def wsX11_refusedHeap_r5 : List Cond := [Cond.selects RX2 yX2_likeness yX2_likeness, Cond.code yX2_likeness cX2_likeness 4 (some .int), Cond.static yX11_off, Cond.code yX11_off cX11_off 6 (some .int), Cond.methodLink RX11 326 Lib.Math.abs.name, Cond.static Lib.Math.abs.name, Cond.code Lib.Math.abs.name Lib.Math.abs.code 1 (some .int), Cond.methodLink RX1 40 yX2_doTouch, Cond.instanceMethod yX2_doTouch, Cond.selects RX2 yX2_doTouch yX2_doTouch, Cond.code yX2_doTouch cX2_doTouch 3 (some .boolean), Cond.methodLink RX2 100 Lib.Math.abs.name, Cond.methodLink RX1 44 yX1_fillGains, Cond.instanceMethod yX1_fillGains, Cond.selects RX1 yX1_fillGains yX1_fillGains, Cond.code yX1_fillGains cX1_fillGains 6 none, Cond.fieldLink RX1 19 "VoiceHeaps$Bonds" "gain" "[I", Cond.methodLink RX11 310 yX0_findBest, Cond.instanceMethod yX0_findBest, Cond.selects RX0 yX0_findBest yX0_findBest, Cond.initialized RX0, Cond.code yX0_findBest cX0_findBest 2 none, Cond.fieldLink RX0 25 "VoiceHeaps$AllHeapings" "isForNear" "Z", Cond.fieldLink RX0 12 "VoiceHeaps$AllHeapings" "best" "LVoiceHeaps$Heaping;"]
def wsX11_refusedHeap_r6 : List Cond := [Cond.constant RX0 29 (-1000000000), Cond.fieldLink RX0 22 "VoiceHeaps$AllHeapings" "members" "[I", Cond.methodLink RX0 34 yJ7_fill_53178, Cond.methodLink RX0 40 yX0_deal, Cond.static yX0_deal, Cond.code yX0_deal cX0_deal 9 none, Cond.fieldLink RX0 18 "VoiceHeaps$AllHeapings" "heapOf" "[I", Cond.methodLink RX0 74 Lib.Math.max.name, Cond.methodLink RX0 70 yX0_meet, Cond.instanceMethod yX0_meet, Cond.selects RX0 yX0_meet yX0_meet, Cond.code yX0_meet cX0_meet 7 none, Cond.methodLink RX0 87 yX0_meetNear, Cond.instanceMethod yX0_meetNear, Cond.selects RX0 yX0_meetNear yX0_meetNear, Cond.code yX0_meetNear cX0_meetNear 5 none, Cond.fieldLink RX0 44 "VoiceHeaps$AllHeapings" "least" "I", Cond.fieldLink RX0 47 "VoiceHeaps$AllHeapings" "nearOnes" "I", Cond.fieldLink RX0 50 "VoiceHeaps$AllHeapings" "fewest" "I", Cond.methodLink RX0 95 Lib.Math.min.name, Cond.fieldLink RX0 53 "VoiceHeaps$AllHeapings" "most" "I", Cond.fieldLink RX0 58 "VoiceHeaps$AllHeapings" "always" "J", Cond.fieldLink RX0 62 "VoiceHeaps$AllHeapings" "ever" "J", Cond.methodLink RX0 80 yX1_gainOf]
def wsX11_refusedHeap_r7 : List Cond := [Cond.instanceMethod yX1_gainOf, Cond.selects RX1 yX1_gainOf yX1_gainOf, Cond.code yX1_gainOf cX1_gainOf 4 (some .int), Cond.methodLink RX0 83 yX0_placeOfPairs, Cond.static yX0_placeOfPairs, Cond.code yX0_placeOfPairs cX0_placeOfPairs 1 (some .int), Cond.methodLink RX11 314 yX4_findMiddles, Cond.instanceMethod yX4_findMiddles, Cond.selects RX4 yX4_findMiddles yX4_findMiddles, Cond.initialized RX4, Cond.code yX4_findMiddles cX4_findMiddles 7 none, Cond.fieldLink RX4 27 "VoiceHeaps$Heaping" "heaps" "I", Cond.fieldLink RX4 9 "VoiceHeaps$Heaping" "heapOf" "[I", Cond.fieldLink RX4 18 "VoiceHeaps$Heaping" "middles" "[I", Cond.methodLink RX4 31 yX3_empty, Cond.methodLink RX4 46 yX3_take, Cond.methodLink RX4 50 yX3_writeMiddle, Cond.methodLink RX11 318 yX1_join, Cond.instanceMethod yX1_join, Cond.selects RX1 yX1_join yX1_join, Cond.code yX1_join cX1_join 4 none, Cond.fieldLink RX1 16 "VoiceHeaps$Bonds" "link" "[[I", Cond.methodLink RX1 53 yX1_joinTwo, Cond.instanceMethod yX1_joinTwo]
def wsX11_refusedHeap_r8 : List Cond := [Cond.selects RX1 yX1_joinTwo yX1_joinTwo, Cond.code yX1_joinTwo cX1_joinTwo 7 (some .boolean), Cond.methodLink RX1 57 yX4_numberHeaps, Cond.instanceMethod yX4_numberHeaps, Cond.selects RX4 yX4_numberHeaps yX4_numberHeaps, Cond.code yX4_numberHeaps cX4_numberHeaps 4 none, Cond.fieldLink RX4 15 "VoiceHeaps$Heaping" "renamed" "[I", Cond.methodLink RX4 21 yJ7_fill_53178, Cond.methodLink RX1 60 yX1_worthOf, Cond.instanceMethod yX1_worthOf, Cond.selects RX1 yX1_worthOf yX1_worthOf, Cond.code yX1_worthOf cX1_worthOf 5 (some .int)]
def wsX11_refusedHeap : List Cond := .code yX11_refusedHeap cX11_refusedHeap 2 (some .int) :: ((wsX11_refusedHeap_r1 ++ (wsX11_refusedHeap_r2 ++ (wsX11_refusedHeap_r3 ++ (wsX11_refusedHeap_r4 ++ (wsX11_refusedHeap_r5 ++ (wsX11_refusedHeap_r6 ++ (wsX11_refusedHeap_r7 ++ wsX11_refusedHeap_r8))))))) ++ wsX110 ++ wsX00 ++ wsX40 ++ wsX20 ++ wsX80 ++ wsX70 ++ wsX30 ++ wsX10)
def wsX11_middle_r1 : List Cond := [Cond.fieldLink RX11 47 "VoiceHeaps" "all" "LVoiceHeaps$AllHeapings;", Cond.methodLink RX11 222 yX11_isHeapNumber, Cond.static yX11_isHeapNumber, Cond.initialized RX11, Cond.code yX11_isHeapNumber cX11_isHeapNumber 1 (some .boolean), Cond.methodLink RX11 104 yX11_within, Cond.static yX11_within, Cond.code yX11_within cX11_within 3 (some .boolean), Cond.methodLink RX11 225 yX11_refusedHeap, Cond.instanceMethod yX11_refusedHeap, Cond.selects RX11 yX11_refusedHeap yX11_refusedHeap, Cond.code yX11_refusedHeap cX11_refusedHeap 2 (some .int), Cond.methodLink RX11 190 yX11_heapNow, Cond.instanceMethod yX11_heapNow, Cond.selects RX11 yX11_heapNow yX11_heapNow, Cond.code yX11_heapNow cX11_heapNow 1 (some .boolean), Cond.fieldLink RX11 33 "VoiceHeaps" "cutting" "LVoiceHeaps$Cutting;", Cond.fieldLink RX11 98 "VoiceHeaps" "heapsAreOld" "Z", Cond.fieldLink RX11 40 "VoiceHeaps" "bonds" "LVoiceHeaps$Bonds;", Cond.fieldLink RX11 10 "VoiceHeaps" "ruleText" "LVoiceHeaps$RuleText;", Cond.fieldLink RX11 19 "VoiceHeaps" "book" "LVoiceHeaps$RowBook;", Cond.fieldLink RX11 26 "VoiceHeaps" "gathering" "LVoiceHeaps$Gathering;", Cond.fieldLink RX11 54 "VoiceHeaps" "joined" "LVoiceHeaps$Heaping;", Cond.methodLink RX11 151 yX11_cutNow]
def wsX11_middle_r2 : List Cond := [Cond.instanceMethod yX11_cutNow, Cond.selects RX11 yX11_cutNow yX11_cutNow, Cond.code yX11_cutNow cX11_cutNow 1 none, Cond.fieldLink RX11 94 "VoiceHeaps" "cutIsOld" "Z", Cond.methodLink RX11 122 yX8_ruleNow, Cond.instanceMethod yX8_ruleNow, Cond.selects RX8 yX8_ruleNow yX8_ruleNow, Cond.initialized RX8, Cond.code yX8_ruleNow cX8_ruleNow 2 (some .int), Cond.fieldLink RX8 13 "VoiceHeaps$RuleText" "now" "[I", Cond.methodLink RX11 302 yX2_cut, Cond.instanceMethod yX2_cut, Cond.selects RX2 yX2_cut yX2_cut, Cond.initialized RX2, Cond.code yX2_cut cX2_cut 7 none, Cond.fieldLink RX2 36 "VoiceHeaps$Cutting" "pieces" "I", Cond.fieldLink RX2 40 "VoiceHeaps$Cutting" "stretches" "I", Cond.fieldLink RX2 43 "VoiceHeaps$Cutting" "total" "I", Cond.fieldLink RX2 46 "VoiceHeaps$Cutting" "heardRows" "I", Cond.fieldLink RX2 27 "VoiceHeaps$Cutting" "pieceOf" "[I", Cond.fieldLink RX2 30 "VoiceHeaps$Cutting" "cost" "[I", Cond.methodLink RX2 49 yJ7_fill_53178, Cond.static yJ7_fill_53178, Cond.initialized RJ7]
def wsX11_middle_r3 : List Cond := [Cond.code yJ7_fill_53178 cJ7_fill_53178 4 none, Cond.methodLink RX2 60 yX7_isHeard, Cond.instanceMethod yX7_isHeard, Cond.selects RX7 yX7_isHeard yX7_isHeard, Cond.initialized RX7, Cond.code yX7_isHeard cX7_isHeard 5 (some .boolean), Cond.fieldLink RX7 15 "VoiceHeaps$RowBook" "isDeaf" "[Z", Cond.fieldLink RX7 19 "VoiceHeaps$RowBook" "isOut" "[Z", Cond.fieldLink RX7 9 "VoiceHeaps$RowBook" "numbers" "[I", Cond.methodLink RX2 64 yX2_findCosts, Cond.instanceMethod yX2_findCosts, Cond.selects RX2 yX2_findCosts yX2_findCosts, Cond.code yX2_findCosts cX2_findCosts 9 none, Cond.constant RX2 77 (1000000000), Cond.fieldLink RX2 33 "VoiceHeaps$Cutting" "most" "[I", Cond.methodLink RX2 72 yX3_empty, Cond.instanceMethod yX3_empty, Cond.selects RX3 yX3_empty yX3_empty, Cond.initialized RX3, Cond.code yX3_empty cX3_empty 1 none, Cond.fieldLink RX3 16 "VoiceHeaps$Gathering" "rows" "I", Cond.fieldLink RX3 20 "VoiceHeaps$Gathering" "spread" "I", Cond.methodLink RX2 78 yX3_take, Cond.instanceMethod yX3_take]
def wsX11_middle_r4 : List Cond := [Cond.selects RX3 yX3_take yX3_take, Cond.code yX3_take cX3_take 7 none, Cond.fieldLink RX3 11 "VoiceHeaps$Gathering" "sorted" "[[I", Cond.methodLink RX3 29 Lib.Math.max.name, Cond.static Lib.Math.max.name, Cond.initialized "java/lang/Math", Cond.code Lib.Math.max.name Lib.Math.max.code 2 (some .int), Cond.methodLink RX2 68 yX2_addPieces, Cond.instanceMethod yX2_addPieces, Cond.selects RX2 yX2_addPieces yX2_addPieces, Cond.code yX2_addPieces cX2_addPieces 8 none, Cond.methodLink RX2 84 Lib.Math.max.name, Cond.methodLink RX2 90 Lib.Math.min.name, Cond.static Lib.Math.min.name, Cond.code Lib.Math.min.name Lib.Math.min.code 2 (some .int), Cond.fieldLink RX2 9 "VoiceHeaps$Cutting" "first" "[I", Cond.fieldLink RX2 15 "VoiceHeaps$Cutting" "size" "[I", Cond.fieldLink RX2 18 "VoiceHeaps$Cutting" "spread" "[I", Cond.fieldLink RX2 24 "VoiceHeaps$Cutting" "stretchOf" "[I", Cond.fieldLink RX2 21 "VoiceHeaps$Cutting" "middles" "[I", Cond.methodLink RX2 93 yX3_writeMiddle, Cond.instanceMethod yX3_writeMiddle, Cond.selects RX3 yX3_writeMiddle yX3_writeMiddle, Cond.code yX3_writeMiddle cX3_writeMiddle 4 none]
def wsX11_middle_r5 : List Cond := [Cond.methodLink RX11 306 yX1_tie, Cond.instanceMethod yX1_tie, Cond.selects RX1 yX1_tie yX1_tie, Cond.initialized RX1, Cond.code yX1_tie cX1_tie 7 none, Cond.methodLink RX1 29 Lib.Math.min.name, Cond.fieldLink RX1 35 "VoiceHeaps$Bonds" "pieces" "I", Cond.fieldLink RX1 11 "VoiceHeaps$Bonds" "bond" "[[I", Cond.methodLink RX1 36 yX2_likeness, Cond.instanceMethod yX2_likeness, Cond.selects RX2 yX2_likeness yX2_likeness, Cond.code yX2_likeness cX2_likeness 4 (some .int), Cond.static yX11_off, Cond.code yX11_off cX11_off 6 (some .int), Cond.methodLink RX11 326 Lib.Math.abs.name, Cond.static Lib.Math.abs.name, Cond.code Lib.Math.abs.name Lib.Math.abs.code 1 (some .int), Cond.methodLink RX1 40 yX2_doTouch, Cond.instanceMethod yX2_doTouch, Cond.selects RX2 yX2_doTouch yX2_doTouch, Cond.code yX2_doTouch cX2_doTouch 3 (some .boolean), Cond.methodLink RX2 100 Lib.Math.abs.name, Cond.methodLink RX1 44 yX1_fillGains, Cond.instanceMethod yX1_fillGains]
def wsX11_middle_r6 : List Cond := [Cond.selects RX1 yX1_fillGains yX1_fillGains, Cond.code yX1_fillGains cX1_fillGains 6 none, Cond.fieldLink RX1 19 "VoiceHeaps$Bonds" "gain" "[I", Cond.methodLink RX11 310 yX0_findBest, Cond.instanceMethod yX0_findBest, Cond.selects RX0 yX0_findBest yX0_findBest, Cond.initialized RX0, Cond.code yX0_findBest cX0_findBest 2 none, Cond.fieldLink RX0 25 "VoiceHeaps$AllHeapings" "isForNear" "Z", Cond.fieldLink RX0 12 "VoiceHeaps$AllHeapings" "best" "LVoiceHeaps$Heaping;", Cond.constant RX0 29 (-1000000000), Cond.fieldLink RX0 22 "VoiceHeaps$AllHeapings" "members" "[I", Cond.methodLink RX0 34 yJ7_fill_53178, Cond.methodLink RX0 40 yX0_deal, Cond.static yX0_deal, Cond.code yX0_deal cX0_deal 9 none, Cond.fieldLink RX0 18 "VoiceHeaps$AllHeapings" "heapOf" "[I", Cond.methodLink RX0 74 Lib.Math.max.name, Cond.methodLink RX0 70 yX0_meet, Cond.instanceMethod yX0_meet, Cond.selects RX0 yX0_meet yX0_meet, Cond.code yX0_meet cX0_meet 7 none, Cond.methodLink RX0 87 yX0_meetNear, Cond.instanceMethod yX0_meetNear]
def wsX11_middle_r7 : List Cond := [Cond.selects RX0 yX0_meetNear yX0_meetNear, Cond.code yX0_meetNear cX0_meetNear 5 none, Cond.fieldLink RX0 44 "VoiceHeaps$AllHeapings" "least" "I", Cond.fieldLink RX0 47 "VoiceHeaps$AllHeapings" "nearOnes" "I", Cond.fieldLink RX0 50 "VoiceHeaps$AllHeapings" "fewest" "I", Cond.methodLink RX0 95 Lib.Math.min.name, Cond.fieldLink RX0 53 "VoiceHeaps$AllHeapings" "most" "I", Cond.fieldLink RX0 58 "VoiceHeaps$AllHeapings" "always" "J", Cond.fieldLink RX0 62 "VoiceHeaps$AllHeapings" "ever" "J", Cond.methodLink RX0 80 yX1_gainOf, Cond.instanceMethod yX1_gainOf, Cond.selects RX1 yX1_gainOf yX1_gainOf, Cond.code yX1_gainOf cX1_gainOf 4 (some .int), Cond.methodLink RX0 83 yX0_placeOfPairs, Cond.static yX0_placeOfPairs, Cond.code yX0_placeOfPairs cX0_placeOfPairs 1 (some .int), Cond.methodLink RX11 314 yX4_findMiddles, Cond.instanceMethod yX4_findMiddles, Cond.selects RX4 yX4_findMiddles yX4_findMiddles, Cond.initialized RX4, Cond.code yX4_findMiddles cX4_findMiddles 7 none, Cond.fieldLink RX4 27 "VoiceHeaps$Heaping" "heaps" "I", Cond.fieldLink RX4 9 "VoiceHeaps$Heaping" "heapOf" "[I", Cond.fieldLink RX4 18 "VoiceHeaps$Heaping" "middles" "[I"]
def wsX11_middle_r8 : List Cond := [Cond.methodLink RX4 31 yX3_empty, Cond.methodLink RX4 46 yX3_take, Cond.methodLink RX4 50 yX3_writeMiddle, Cond.methodLink RX11 318 yX1_join, Cond.instanceMethod yX1_join, Cond.selects RX1 yX1_join yX1_join, Cond.code yX1_join cX1_join 4 none, Cond.fieldLink RX1 16 "VoiceHeaps$Bonds" "link" "[[I", Cond.methodLink RX1 53 yX1_joinTwo, Cond.instanceMethod yX1_joinTwo, Cond.selects RX1 yX1_joinTwo yX1_joinTwo, Cond.code yX1_joinTwo cX1_joinTwo 7 (some .boolean), Cond.methodLink RX1 57 yX4_numberHeaps, Cond.instanceMethod yX4_numberHeaps, Cond.selects RX4 yX4_numberHeaps yX4_numberHeaps, Cond.code yX4_numberHeaps cX4_numberHeaps 4 none, Cond.fieldLink RX4 15 "VoiceHeaps$Heaping" "renamed" "[I", Cond.methodLink RX4 21 yJ7_fill_53178, Cond.methodLink RX1 60 yX1_worthOf, Cond.instanceMethod yX1_worthOf, Cond.selects RX1 yX1_worthOf yX1_worthOf, Cond.code yX1_worthOf cX1_worthOf 5 (some .int), Cond.methodLink RX11 231 yX4_middleOf, Cond.instanceMethod yX4_middleOf]
def wsX11_middle_r9 : List Cond := [Cond.selects RX4 yX4_middleOf yX4_middleOf, Cond.code yX4_middleOf cX4_middleOf 3 (some .int)]
def wsX11_middle : List Cond := .code yX11_middle cX11_middle 4 (some .int) :: ((wsX11_middle_r1 ++ (wsX11_middle_r2 ++ (wsX11_middle_r3 ++ (wsX11_middle_r4 ++ (wsX11_middle_r5 ++ (wsX11_middle_r6 ++ (wsX11_middle_r7 ++ (wsX11_middle_r8 ++ wsX11_middle_r9)))))))) ++ wsX110 ++ wsX00 ++ wsX40 ++ wsX20 ++ wsX80 ++ wsX70 ++ wsX30 ++ wsX10)
def wsX11_twice_r1 : List Cond := [Cond.fieldLink RX11 47 "VoiceHeaps" "all" "LVoiceHeaps$AllHeapings;", Cond.fieldLink RX11 33 "VoiceHeaps" "cutting" "LVoiceHeaps$Cutting;", Cond.fieldLink RX11 10 "VoiceHeaps" "ruleText" "LVoiceHeaps$RuleText;", Cond.methodLink RX11 166 yX11_isPiece, Cond.instanceMethod yX11_isPiece, Cond.selects RX11 yX11_isPiece yX11_isPiece, Cond.initialized RX11, Cond.code yX11_isPiece cX11_isPiece 2 (some .boolean), Cond.methodLink RX11 151 yX11_cutNow, Cond.instanceMethod yX11_cutNow, Cond.selects RX11 yX11_cutNow yX11_cutNow, Cond.code yX11_cutNow cX11_cutNow 1 none, Cond.fieldLink RX11 94 "VoiceHeaps" "cutIsOld" "Z", Cond.fieldLink RX11 19 "VoiceHeaps" "book" "LVoiceHeaps$RowBook;", Cond.fieldLink RX11 26 "VoiceHeaps" "gathering" "LVoiceHeaps$Gathering;", Cond.methodLink RX11 122 yX8_ruleNow, Cond.instanceMethod yX8_ruleNow, Cond.selects RX8 yX8_ruleNow yX8_ruleNow, Cond.initialized RX8, Cond.code yX8_ruleNow cX8_ruleNow 2 (some .int), Cond.fieldLink RX8 13 "VoiceHeaps$RuleText" "now" "[I", Cond.methodLink RX11 302 yX2_cut, Cond.instanceMethod yX2_cut, Cond.selects RX2 yX2_cut yX2_cut]
def wsX11_twice_r2 : List Cond := [Cond.initialized RX2, Cond.code yX2_cut cX2_cut 7 none, Cond.fieldLink RX2 36 "VoiceHeaps$Cutting" "pieces" "I", Cond.fieldLink RX2 40 "VoiceHeaps$Cutting" "stretches" "I", Cond.fieldLink RX2 43 "VoiceHeaps$Cutting" "total" "I", Cond.fieldLink RX2 46 "VoiceHeaps$Cutting" "heardRows" "I", Cond.fieldLink RX2 27 "VoiceHeaps$Cutting" "pieceOf" "[I", Cond.fieldLink RX2 30 "VoiceHeaps$Cutting" "cost" "[I", Cond.methodLink RX2 49 yJ7_fill_53178, Cond.static yJ7_fill_53178, Cond.initialized RJ7, Cond.code yJ7_fill_53178 cJ7_fill_53178 4 none, Cond.methodLink RX2 60 yX7_isHeard, Cond.instanceMethod yX7_isHeard, Cond.selects RX7 yX7_isHeard yX7_isHeard, Cond.initialized RX7, Cond.code yX7_isHeard cX7_isHeard 5 (some .boolean), Cond.fieldLink RX7 15 "VoiceHeaps$RowBook" "isDeaf" "[Z", Cond.fieldLink RX7 19 "VoiceHeaps$RowBook" "isOut" "[Z", Cond.fieldLink RX7 9 "VoiceHeaps$RowBook" "numbers" "[I", Cond.methodLink RX2 64 yX2_findCosts, Cond.instanceMethod yX2_findCosts, Cond.selects RX2 yX2_findCosts yX2_findCosts, Cond.code yX2_findCosts cX2_findCosts 9 none]
def wsX11_twice_r3 : List Cond := [Cond.constant RX2 77 (1000000000), Cond.fieldLink RX2 33 "VoiceHeaps$Cutting" "most" "[I", Cond.methodLink RX2 72 yX3_empty, Cond.instanceMethod yX3_empty, Cond.selects RX3 yX3_empty yX3_empty, Cond.initialized RX3, Cond.code yX3_empty cX3_empty 1 none, Cond.fieldLink RX3 16 "VoiceHeaps$Gathering" "rows" "I", Cond.fieldLink RX3 20 "VoiceHeaps$Gathering" "spread" "I", Cond.methodLink RX2 78 yX3_take, Cond.instanceMethod yX3_take, Cond.selects RX3 yX3_take yX3_take, Cond.code yX3_take cX3_take 7 none, Cond.fieldLink RX3 11 "VoiceHeaps$Gathering" "sorted" "[[I", Cond.methodLink RX3 29 Lib.Math.max.name, Cond.static Lib.Math.max.name, Cond.initialized "java/lang/Math", Cond.code Lib.Math.max.name Lib.Math.max.code 2 (some .int), Cond.methodLink RX2 68 yX2_addPieces, Cond.instanceMethod yX2_addPieces, Cond.selects RX2 yX2_addPieces yX2_addPieces, Cond.code yX2_addPieces cX2_addPieces 8 none, Cond.methodLink RX2 84 Lib.Math.max.name, Cond.methodLink RX2 90 Lib.Math.min.name]
def wsX11_twice_r4 : List Cond := [Cond.static Lib.Math.min.name, Cond.code Lib.Math.min.name Lib.Math.min.code 2 (some .int), Cond.fieldLink RX2 9 "VoiceHeaps$Cutting" "first" "[I", Cond.fieldLink RX2 15 "VoiceHeaps$Cutting" "size" "[I", Cond.fieldLink RX2 18 "VoiceHeaps$Cutting" "spread" "[I", Cond.fieldLink RX2 24 "VoiceHeaps$Cutting" "stretchOf" "[I", Cond.fieldLink RX2 21 "VoiceHeaps$Cutting" "middles" "[I", Cond.methodLink RX2 93 yX3_writeMiddle, Cond.instanceMethod yX3_writeMiddle, Cond.selects RX3 yX3_writeMiddle yX3_writeMiddle, Cond.code yX3_writeMiddle cX3_writeMiddle 4 none, Cond.methodLink RX11 104 yX11_within, Cond.static yX11_within, Cond.code yX11_within cX11_within 3 (some .boolean), Cond.methodLink RX11 190 yX11_heapNow, Cond.instanceMethod yX11_heapNow, Cond.selects RX11 yX11_heapNow yX11_heapNow, Cond.code yX11_heapNow cX11_heapNow 1 (some .boolean), Cond.fieldLink RX11 98 "VoiceHeaps" "heapsAreOld" "Z", Cond.fieldLink RX11 40 "VoiceHeaps" "bonds" "LVoiceHeaps$Bonds;", Cond.fieldLink RX11 54 "VoiceHeaps" "joined" "LVoiceHeaps$Heaping;", Cond.methodLink RX11 306 yX1_tie, Cond.instanceMethod yX1_tie, Cond.selects RX1 yX1_tie yX1_tie]
def wsX11_twice_r5 : List Cond := [Cond.initialized RX1, Cond.code yX1_tie cX1_tie 7 none, Cond.methodLink RX1 29 Lib.Math.min.name, Cond.fieldLink RX1 35 "VoiceHeaps$Bonds" "pieces" "I", Cond.fieldLink RX1 11 "VoiceHeaps$Bonds" "bond" "[[I", Cond.methodLink RX1 36 yX2_likeness, Cond.instanceMethod yX2_likeness, Cond.selects RX2 yX2_likeness yX2_likeness, Cond.code yX2_likeness cX2_likeness 4 (some .int), Cond.static yX11_off, Cond.code yX11_off cX11_off 6 (some .int), Cond.methodLink RX11 326 Lib.Math.abs.name, Cond.static Lib.Math.abs.name, Cond.code Lib.Math.abs.name Lib.Math.abs.code 1 (some .int), Cond.methodLink RX1 40 yX2_doTouch, Cond.instanceMethod yX2_doTouch, Cond.selects RX2 yX2_doTouch yX2_doTouch, Cond.code yX2_doTouch cX2_doTouch 3 (some .boolean), Cond.methodLink RX2 100 Lib.Math.abs.name, Cond.methodLink RX1 44 yX1_fillGains, Cond.instanceMethod yX1_fillGains, Cond.selects RX1 yX1_fillGains yX1_fillGains, Cond.code yX1_fillGains cX1_fillGains 6 none, Cond.fieldLink RX1 19 "VoiceHeaps$Bonds" "gain" "[I"]
def wsX11_twice_r6 : List Cond := [Cond.methodLink RX11 310 yX0_findBest, Cond.instanceMethod yX0_findBest, Cond.selects RX0 yX0_findBest yX0_findBest, Cond.initialized RX0, Cond.code yX0_findBest cX0_findBest 2 none, Cond.fieldLink RX0 25 "VoiceHeaps$AllHeapings" "isForNear" "Z", Cond.fieldLink RX0 12 "VoiceHeaps$AllHeapings" "best" "LVoiceHeaps$Heaping;", Cond.constant RX0 29 (-1000000000), Cond.fieldLink RX0 22 "VoiceHeaps$AllHeapings" "members" "[I", Cond.methodLink RX0 34 yJ7_fill_53178, Cond.methodLink RX0 40 yX0_deal, Cond.static yX0_deal, Cond.code yX0_deal cX0_deal 9 none, Cond.fieldLink RX0 18 "VoiceHeaps$AllHeapings" "heapOf" "[I", Cond.methodLink RX0 74 Lib.Math.max.name, Cond.methodLink RX0 70 yX0_meet, Cond.instanceMethod yX0_meet, Cond.selects RX0 yX0_meet yX0_meet, Cond.code yX0_meet cX0_meet 7 none, Cond.methodLink RX0 87 yX0_meetNear, Cond.instanceMethod yX0_meetNear, Cond.selects RX0 yX0_meetNear yX0_meetNear, Cond.code yX0_meetNear cX0_meetNear 5 none, Cond.fieldLink RX0 44 "VoiceHeaps$AllHeapings" "least" "I"]
def wsX11_twice_r7 : List Cond := [Cond.fieldLink RX0 47 "VoiceHeaps$AllHeapings" "nearOnes" "I", Cond.fieldLink RX0 50 "VoiceHeaps$AllHeapings" "fewest" "I", Cond.methodLink RX0 95 Lib.Math.min.name, Cond.fieldLink RX0 53 "VoiceHeaps$AllHeapings" "most" "I", Cond.fieldLink RX0 58 "VoiceHeaps$AllHeapings" "always" "J", Cond.fieldLink RX0 62 "VoiceHeaps$AllHeapings" "ever" "J", Cond.methodLink RX0 80 yX1_gainOf, Cond.instanceMethod yX1_gainOf, Cond.selects RX1 yX1_gainOf yX1_gainOf, Cond.code yX1_gainOf cX1_gainOf 4 (some .int), Cond.methodLink RX0 83 yX0_placeOfPairs, Cond.static yX0_placeOfPairs, Cond.code yX0_placeOfPairs cX0_placeOfPairs 1 (some .int), Cond.methodLink RX11 314 yX4_findMiddles, Cond.instanceMethod yX4_findMiddles, Cond.selects RX4 yX4_findMiddles yX4_findMiddles, Cond.initialized RX4, Cond.code yX4_findMiddles cX4_findMiddles 7 none, Cond.fieldLink RX4 27 "VoiceHeaps$Heaping" "heaps" "I", Cond.fieldLink RX4 9 "VoiceHeaps$Heaping" "heapOf" "[I", Cond.fieldLink RX4 18 "VoiceHeaps$Heaping" "middles" "[I", Cond.methodLink RX4 31 yX3_empty, Cond.methodLink RX4 46 yX3_take, Cond.methodLink RX4 50 yX3_writeMiddle]
def wsX11_twice_r8 : List Cond := [Cond.methodLink RX11 318 yX1_join, Cond.instanceMethod yX1_join, Cond.selects RX1 yX1_join yX1_join, Cond.code yX1_join cX1_join 4 none, Cond.fieldLink RX1 16 "VoiceHeaps$Bonds" "link" "[[I", Cond.methodLink RX1 53 yX1_joinTwo, Cond.instanceMethod yX1_joinTwo, Cond.selects RX1 yX1_joinTwo yX1_joinTwo, Cond.code yX1_joinTwo cX1_joinTwo 7 (some .boolean), Cond.methodLink RX1 57 yX4_numberHeaps, Cond.instanceMethod yX4_numberHeaps, Cond.selects RX4 yX4_numberHeaps yX4_numberHeaps, Cond.code yX4_numberHeaps cX4_numberHeaps 4 none, Cond.fieldLink RX4 15 "VoiceHeaps$Heaping" "renamed" "[I", Cond.methodLink RX4 21 yJ7_fill_53178, Cond.methodLink RX1 60 yX1_worthOf, Cond.instanceMethod yX1_worthOf, Cond.selects RX1 yX1_worthOf yX1_worthOf, Cond.code yX1_worthOf cX1_worthOf 5 (some .int), Cond.methodLink RX11 232 yX4_twoInOne, Cond.instanceMethod yX4_twoInOne, Cond.selects RX4 yX4_twoInOne yX4_twoInOne, Cond.code yX4_twoInOne cX4_twoInOne 10 (some .int), Cond.constant RX4 53 (1000000000)]
def wsX11_twice_r9 : List Cond := [Cond.methodLink RX4 54 yX4_offOfTwo, Cond.instanceMethod yX4_offOfTwo, Cond.selects RX4 yX4_offOfTwo yX4_offOfTwo, Cond.code yX4_offOfTwo cX4_offOfTwo 8 (some .int), Cond.methodLink RX4 67 Lib.Math.min.name, Cond.methodLink RX4 73 Lib.Math.abs.name, Cond.methodLink RX4 63 yX4_middleOf, Cond.instanceMethod yX4_middleOf, Cond.selects RX4 yX4_middleOf yX4_middleOf, Cond.code yX4_middleOf cX4_middleOf 3 (some .int), Cond.methodLink RX4 72 yX2_middleOf, Cond.instanceMethod yX2_middleOf, Cond.selects RX2 yX2_middleOf yX2_middleOf, Cond.code yX2_middleOf cX2_middleOf 3 (some .int)]
def wsX11_twice : List Cond := .code yX11_twice cX11_twice 4 (some .int) :: ((wsX11_twice_r1 ++ (wsX11_twice_r2 ++ (wsX11_twice_r3 ++ (wsX11_twice_r4 ++ (wsX11_twice_r5 ++ (wsX11_twice_r6 ++ (wsX11_twice_r7 ++ (wsX11_twice_r8 ++ wsX11_twice_r9)))))))) ++ wsX110 ++ wsX00 ++ wsX20 ++ wsX80 ++ wsX70 ++ wsX30 ++ wsX10 ++ wsX40)
def wsX11_keep_r1 : List Cond := [Cond.fieldLink RX11 61 "VoiceHeaps" "kept" "LVoiceHeaps$KeptVoices;", Cond.fieldLink RX11 47 "VoiceHeaps" "all" "LVoiceHeaps$AllHeapings;", Cond.methodLink RX11 222 yX11_isHeapNumber, Cond.static yX11_isHeapNumber, Cond.initialized RX11, Cond.code yX11_isHeapNumber cX11_isHeapNumber 1 (some .boolean), Cond.methodLink RX11 104 yX11_within, Cond.static yX11_within, Cond.code yX11_within cX11_within 3 (some .boolean), Cond.methodLink RX11 225 yX11_refusedHeap, Cond.instanceMethod yX11_refusedHeap, Cond.selects RX11 yX11_refusedHeap yX11_refusedHeap, Cond.code yX11_refusedHeap cX11_refusedHeap 2 (some .int), Cond.methodLink RX11 190 yX11_heapNow, Cond.instanceMethod yX11_heapNow, Cond.selects RX11 yX11_heapNow yX11_heapNow, Cond.code yX11_heapNow cX11_heapNow 1 (some .boolean), Cond.fieldLink RX11 33 "VoiceHeaps" "cutting" "LVoiceHeaps$Cutting;", Cond.fieldLink RX11 98 "VoiceHeaps" "heapsAreOld" "Z", Cond.fieldLink RX11 40 "VoiceHeaps" "bonds" "LVoiceHeaps$Bonds;", Cond.fieldLink RX11 10 "VoiceHeaps" "ruleText" "LVoiceHeaps$RuleText;", Cond.fieldLink RX11 19 "VoiceHeaps" "book" "LVoiceHeaps$RowBook;", Cond.fieldLink RX11 26 "VoiceHeaps" "gathering" "LVoiceHeaps$Gathering;", Cond.fieldLink RX11 54 "VoiceHeaps" "joined" "LVoiceHeaps$Heaping;"]
def wsX11_keep_r2 : List Cond := [Cond.methodLink RX11 151 yX11_cutNow, Cond.instanceMethod yX11_cutNow, Cond.selects RX11 yX11_cutNow yX11_cutNow, Cond.code yX11_cutNow cX11_cutNow 1 none, Cond.fieldLink RX11 94 "VoiceHeaps" "cutIsOld" "Z", Cond.methodLink RX11 122 yX8_ruleNow, Cond.instanceMethod yX8_ruleNow, Cond.selects RX8 yX8_ruleNow yX8_ruleNow, Cond.initialized RX8, Cond.code yX8_ruleNow cX8_ruleNow 2 (some .int), Cond.fieldLink RX8 13 "VoiceHeaps$RuleText" "now" "[I", Cond.methodLink RX11 302 yX2_cut, Cond.instanceMethod yX2_cut, Cond.selects RX2 yX2_cut yX2_cut, Cond.initialized RX2, Cond.code yX2_cut cX2_cut 7 none, Cond.fieldLink RX2 36 "VoiceHeaps$Cutting" "pieces" "I", Cond.fieldLink RX2 40 "VoiceHeaps$Cutting" "stretches" "I", Cond.fieldLink RX2 43 "VoiceHeaps$Cutting" "total" "I", Cond.fieldLink RX2 46 "VoiceHeaps$Cutting" "heardRows" "I", Cond.fieldLink RX2 27 "VoiceHeaps$Cutting" "pieceOf" "[I", Cond.fieldLink RX2 30 "VoiceHeaps$Cutting" "cost" "[I", Cond.methodLink RX2 49 yJ7_fill_53178, Cond.static yJ7_fill_53178]
def wsX11_keep_r3 : List Cond := [Cond.initialized RJ7, Cond.code yJ7_fill_53178 cJ7_fill_53178 4 none, Cond.methodLink RX2 60 yX7_isHeard, Cond.instanceMethod yX7_isHeard, Cond.selects RX7 yX7_isHeard yX7_isHeard, Cond.initialized RX7, Cond.code yX7_isHeard cX7_isHeard 5 (some .boolean), Cond.fieldLink RX7 15 "VoiceHeaps$RowBook" "isDeaf" "[Z", Cond.fieldLink RX7 19 "VoiceHeaps$RowBook" "isOut" "[Z", Cond.fieldLink RX7 9 "VoiceHeaps$RowBook" "numbers" "[I", Cond.methodLink RX2 64 yX2_findCosts, Cond.instanceMethod yX2_findCosts, Cond.selects RX2 yX2_findCosts yX2_findCosts, Cond.code yX2_findCosts cX2_findCosts 9 none, Cond.constant RX2 77 (1000000000), Cond.fieldLink RX2 33 "VoiceHeaps$Cutting" "most" "[I", Cond.methodLink RX2 72 yX3_empty, Cond.instanceMethod yX3_empty, Cond.selects RX3 yX3_empty yX3_empty, Cond.initialized RX3, Cond.code yX3_empty cX3_empty 1 none, Cond.fieldLink RX3 16 "VoiceHeaps$Gathering" "rows" "I", Cond.fieldLink RX3 20 "VoiceHeaps$Gathering" "spread" "I", Cond.methodLink RX2 78 yX3_take]
def wsX11_keep_r4 : List Cond := [Cond.instanceMethod yX3_take, Cond.selects RX3 yX3_take yX3_take, Cond.code yX3_take cX3_take 7 none, Cond.fieldLink RX3 11 "VoiceHeaps$Gathering" "sorted" "[[I", Cond.methodLink RX3 29 Lib.Math.max.name, Cond.static Lib.Math.max.name, Cond.initialized "java/lang/Math", Cond.code Lib.Math.max.name Lib.Math.max.code 2 (some .int), Cond.methodLink RX2 68 yX2_addPieces, Cond.instanceMethod yX2_addPieces, Cond.selects RX2 yX2_addPieces yX2_addPieces, Cond.code yX2_addPieces cX2_addPieces 8 none, Cond.methodLink RX2 84 Lib.Math.max.name, Cond.methodLink RX2 90 Lib.Math.min.name, Cond.static Lib.Math.min.name, Cond.code Lib.Math.min.name Lib.Math.min.code 2 (some .int), Cond.fieldLink RX2 9 "VoiceHeaps$Cutting" "first" "[I", Cond.fieldLink RX2 15 "VoiceHeaps$Cutting" "size" "[I", Cond.fieldLink RX2 18 "VoiceHeaps$Cutting" "spread" "[I", Cond.fieldLink RX2 24 "VoiceHeaps$Cutting" "stretchOf" "[I", Cond.fieldLink RX2 21 "VoiceHeaps$Cutting" "middles" "[I", Cond.methodLink RX2 93 yX3_writeMiddle, Cond.instanceMethod yX3_writeMiddle, Cond.selects RX3 yX3_writeMiddle yX3_writeMiddle]
def wsX11_keep_r5 : List Cond := [Cond.code yX3_writeMiddle cX3_writeMiddle 4 none, Cond.methodLink RX11 306 yX1_tie, Cond.instanceMethod yX1_tie, Cond.selects RX1 yX1_tie yX1_tie, Cond.initialized RX1, Cond.code yX1_tie cX1_tie 7 none, Cond.methodLink RX1 29 Lib.Math.min.name, Cond.fieldLink RX1 35 "VoiceHeaps$Bonds" "pieces" "I", Cond.fieldLink RX1 11 "VoiceHeaps$Bonds" "bond" "[[I", Cond.methodLink RX1 36 yX2_likeness, Cond.instanceMethod yX2_likeness, Cond.selects RX2 yX2_likeness yX2_likeness, Cond.code yX2_likeness cX2_likeness 4 (some .int), Cond.static yX11_off, Cond.code yX11_off cX11_off 6 (some .int), Cond.methodLink RX11 326 Lib.Math.abs.name, Cond.static Lib.Math.abs.name, Cond.code Lib.Math.abs.name Lib.Math.abs.code 1 (some .int), Cond.methodLink RX1 40 yX2_doTouch, Cond.instanceMethod yX2_doTouch, Cond.selects RX2 yX2_doTouch yX2_doTouch, Cond.code yX2_doTouch cX2_doTouch 3 (some .boolean), Cond.methodLink RX2 100 Lib.Math.abs.name, Cond.methodLink RX1 44 yX1_fillGains]
def wsX11_keep_r6 : List Cond := [Cond.instanceMethod yX1_fillGains, Cond.selects RX1 yX1_fillGains yX1_fillGains, Cond.code yX1_fillGains cX1_fillGains 6 none, Cond.fieldLink RX1 19 "VoiceHeaps$Bonds" "gain" "[I", Cond.methodLink RX11 310 yX0_findBest, Cond.instanceMethod yX0_findBest, Cond.selects RX0 yX0_findBest yX0_findBest, Cond.initialized RX0, Cond.code yX0_findBest cX0_findBest 2 none, Cond.fieldLink RX0 25 "VoiceHeaps$AllHeapings" "isForNear" "Z", Cond.fieldLink RX0 12 "VoiceHeaps$AllHeapings" "best" "LVoiceHeaps$Heaping;", Cond.constant RX0 29 (-1000000000), Cond.fieldLink RX0 22 "VoiceHeaps$AllHeapings" "members" "[I", Cond.methodLink RX0 34 yJ7_fill_53178, Cond.methodLink RX0 40 yX0_deal, Cond.static yX0_deal, Cond.code yX0_deal cX0_deal 9 none, Cond.fieldLink RX0 18 "VoiceHeaps$AllHeapings" "heapOf" "[I", Cond.methodLink RX0 74 Lib.Math.max.name, Cond.methodLink RX0 70 yX0_meet, Cond.instanceMethod yX0_meet, Cond.selects RX0 yX0_meet yX0_meet, Cond.code yX0_meet cX0_meet 7 none, Cond.methodLink RX0 87 yX0_meetNear]
def wsX11_keep_r7 : List Cond := [Cond.instanceMethod yX0_meetNear, Cond.selects RX0 yX0_meetNear yX0_meetNear, Cond.code yX0_meetNear cX0_meetNear 5 none, Cond.fieldLink RX0 44 "VoiceHeaps$AllHeapings" "least" "I", Cond.fieldLink RX0 47 "VoiceHeaps$AllHeapings" "nearOnes" "I", Cond.fieldLink RX0 50 "VoiceHeaps$AllHeapings" "fewest" "I", Cond.methodLink RX0 95 Lib.Math.min.name, Cond.fieldLink RX0 53 "VoiceHeaps$AllHeapings" "most" "I", Cond.fieldLink RX0 58 "VoiceHeaps$AllHeapings" "always" "J", Cond.fieldLink RX0 62 "VoiceHeaps$AllHeapings" "ever" "J", Cond.methodLink RX0 80 yX1_gainOf, Cond.instanceMethod yX1_gainOf, Cond.selects RX1 yX1_gainOf yX1_gainOf, Cond.code yX1_gainOf cX1_gainOf 4 (some .int), Cond.methodLink RX0 83 yX0_placeOfPairs, Cond.static yX0_placeOfPairs, Cond.code yX0_placeOfPairs cX0_placeOfPairs 1 (some .int), Cond.methodLink RX11 314 yX4_findMiddles, Cond.instanceMethod yX4_findMiddles, Cond.selects RX4 yX4_findMiddles yX4_findMiddles, Cond.initialized RX4, Cond.code yX4_findMiddles cX4_findMiddles 7 none, Cond.fieldLink RX4 27 "VoiceHeaps$Heaping" "heaps" "I", Cond.fieldLink RX4 9 "VoiceHeaps$Heaping" "heapOf" "[I"]
def wsX11_keep_r8 : List Cond := [Cond.fieldLink RX4 18 "VoiceHeaps$Heaping" "middles" "[I", Cond.methodLink RX4 31 yX3_empty, Cond.methodLink RX4 46 yX3_take, Cond.methodLink RX4 50 yX3_writeMiddle, Cond.methodLink RX11 318 yX1_join, Cond.instanceMethod yX1_join, Cond.selects RX1 yX1_join yX1_join, Cond.code yX1_join cX1_join 4 none, Cond.fieldLink RX1 16 "VoiceHeaps$Bonds" "link" "[[I", Cond.methodLink RX1 53 yX1_joinTwo, Cond.instanceMethod yX1_joinTwo, Cond.selects RX1 yX1_joinTwo yX1_joinTwo, Cond.code yX1_joinTwo cX1_joinTwo 7 (some .boolean), Cond.methodLink RX1 57 yX4_numberHeaps, Cond.instanceMethod yX4_numberHeaps, Cond.selects RX4 yX4_numberHeaps yX4_numberHeaps, Cond.code yX4_numberHeaps cX4_numberHeaps 4 none, Cond.fieldLink RX4 15 "VoiceHeaps$Heaping" "renamed" "[I", Cond.methodLink RX4 21 yJ7_fill_53178, Cond.methodLink RX1 60 yX1_worthOf, Cond.instanceMethod yX1_worthOf, Cond.selects RX1 yX1_worthOf yX1_worthOf, Cond.code yX1_worthOf cX1_worthOf 5 (some .int), Cond.methodLink RX11 236 yX5_add]
def wsX11_keep_r9 : List Cond := [Cond.instanceMethod yX5_add, Cond.selects RX5 yX5_add yX5_add, Cond.initialized RX5, Cond.code yX5_add cX5_add 6 (some .int), Cond.fieldLink RX5 21 "VoiceHeaps$KeptVoices" "voices" "I", Cond.fieldLink RX5 11 "VoiceHeaps$KeptVoices" "names" "[I", Cond.fieldLink RX5 15 "VoiceHeaps$KeptVoices" "middles" "[I", Cond.methodLink RX5 25 yX4_middleOf, Cond.instanceMethod yX4_middleOf, Cond.selects RX4 yX4_middleOf yX4_middleOf, Cond.code yX4_middleOf cX4_middleOf 3 (some .int)]
def wsX11_keep : List Cond := .code yX11_keep cX11_keep 4 (some .int) :: ((wsX11_keep_r1 ++ (wsX11_keep_r2 ++ (wsX11_keep_r3 ++ (wsX11_keep_r4 ++ (wsX11_keep_r5 ++ (wsX11_keep_r6 ++ (wsX11_keep_r7 ++ (wsX11_keep_r8 ++ wsX11_keep_r9)))))))) ++ wsX110 ++ wsX00 ++ wsX40 ++ wsX20 ++ wsX80 ++ wsX70 ++ wsX30 ++ wsX10 ++ wsX50)
def wsX11_forget : List Cond := .code yX11_forget cX11_forget 2 (some .int) :: ([.fieldLink RX11 61 "VoiceHeaps" "kept" "LVoiceHeaps$KeptVoices;", .methodLink RX11 240 yX5_has, .instanceMethod yX5_has, .selects RX5 yX5_has yX5_has, .initialized RX5, .code yX5_has cX5_has 2 (some .boolean), .fieldLink RX5 21 "VoiceHeaps$KeptVoices" "voices" "I", .methodLink RX11 243 yX5_remove, .instanceMethod yX5_remove, .selects RX5 yX5_remove yX5_remove, .code yX5_remove cX5_remove 5 (some .int), .fieldLink RX5 11 "VoiceHeaps$KeptVoices" "names" "[I", .fieldLink RX5 15 "VoiceHeaps$KeptVoices" "middles" "[I", .methodLink RX5 31 yX5_has] ++ wsX110 ++ wsX50)
def wsX11_back_r1 : List Cond := [Cond.fieldLink RX11 61 "VoiceHeaps" "kept" "LVoiceHeaps$KeptVoices;", Cond.fieldLink RX11 47 "VoiceHeaps" "all" "LVoiceHeaps$AllHeapings;", Cond.fieldLink RX11 10 "VoiceHeaps" "ruleText" "LVoiceHeaps$RuleText;", Cond.methodLink RX11 222 yX11_isHeapNumber, Cond.static yX11_isHeapNumber, Cond.initialized RX11, Cond.code yX11_isHeapNumber cX11_isHeapNumber 1 (some .boolean), Cond.methodLink RX11 104 yX11_within, Cond.static yX11_within, Cond.code yX11_within cX11_within 3 (some .boolean), Cond.methodLink RX11 225 yX11_refusedHeap, Cond.instanceMethod yX11_refusedHeap, Cond.selects RX11 yX11_refusedHeap yX11_refusedHeap, Cond.code yX11_refusedHeap cX11_refusedHeap 2 (some .int), Cond.methodLink RX11 190 yX11_heapNow, Cond.instanceMethod yX11_heapNow, Cond.selects RX11 yX11_heapNow yX11_heapNow, Cond.code yX11_heapNow cX11_heapNow 1 (some .boolean), Cond.fieldLink RX11 33 "VoiceHeaps" "cutting" "LVoiceHeaps$Cutting;", Cond.fieldLink RX11 98 "VoiceHeaps" "heapsAreOld" "Z", Cond.fieldLink RX11 40 "VoiceHeaps" "bonds" "LVoiceHeaps$Bonds;", Cond.fieldLink RX11 19 "VoiceHeaps" "book" "LVoiceHeaps$RowBook;", Cond.fieldLink RX11 26 "VoiceHeaps" "gathering" "LVoiceHeaps$Gathering;", Cond.fieldLink RX11 54 "VoiceHeaps" "joined" "LVoiceHeaps$Heaping;"]
def wsX11_back_r2 : List Cond := [Cond.methodLink RX11 151 yX11_cutNow, Cond.instanceMethod yX11_cutNow, Cond.selects RX11 yX11_cutNow yX11_cutNow, Cond.code yX11_cutNow cX11_cutNow 1 none, Cond.fieldLink RX11 94 "VoiceHeaps" "cutIsOld" "Z", Cond.methodLink RX11 122 yX8_ruleNow, Cond.instanceMethod yX8_ruleNow, Cond.selects RX8 yX8_ruleNow yX8_ruleNow, Cond.initialized RX8, Cond.code yX8_ruleNow cX8_ruleNow 2 (some .int), Cond.fieldLink RX8 13 "VoiceHeaps$RuleText" "now" "[I", Cond.methodLink RX11 302 yX2_cut, Cond.instanceMethod yX2_cut, Cond.selects RX2 yX2_cut yX2_cut, Cond.initialized RX2, Cond.code yX2_cut cX2_cut 7 none, Cond.fieldLink RX2 36 "VoiceHeaps$Cutting" "pieces" "I", Cond.fieldLink RX2 40 "VoiceHeaps$Cutting" "stretches" "I", Cond.fieldLink RX2 43 "VoiceHeaps$Cutting" "total" "I", Cond.fieldLink RX2 46 "VoiceHeaps$Cutting" "heardRows" "I", Cond.fieldLink RX2 27 "VoiceHeaps$Cutting" "pieceOf" "[I", Cond.fieldLink RX2 30 "VoiceHeaps$Cutting" "cost" "[I", Cond.methodLink RX2 49 yJ7_fill_53178, Cond.static yJ7_fill_53178]
def wsX11_back_r3 : List Cond := [Cond.initialized RJ7, Cond.code yJ7_fill_53178 cJ7_fill_53178 4 none, Cond.methodLink RX2 60 yX7_isHeard, Cond.instanceMethod yX7_isHeard, Cond.selects RX7 yX7_isHeard yX7_isHeard, Cond.initialized RX7, Cond.code yX7_isHeard cX7_isHeard 5 (some .boolean), Cond.fieldLink RX7 15 "VoiceHeaps$RowBook" "isDeaf" "[Z", Cond.fieldLink RX7 19 "VoiceHeaps$RowBook" "isOut" "[Z", Cond.fieldLink RX7 9 "VoiceHeaps$RowBook" "numbers" "[I", Cond.methodLink RX2 64 yX2_findCosts, Cond.instanceMethod yX2_findCosts, Cond.selects RX2 yX2_findCosts yX2_findCosts, Cond.code yX2_findCosts cX2_findCosts 9 none, Cond.constant RX2 77 (1000000000), Cond.fieldLink RX2 33 "VoiceHeaps$Cutting" "most" "[I", Cond.methodLink RX2 72 yX3_empty, Cond.instanceMethod yX3_empty, Cond.selects RX3 yX3_empty yX3_empty, Cond.initialized RX3, Cond.code yX3_empty cX3_empty 1 none, Cond.fieldLink RX3 16 "VoiceHeaps$Gathering" "rows" "I", Cond.fieldLink RX3 20 "VoiceHeaps$Gathering" "spread" "I", Cond.methodLink RX2 78 yX3_take]
def wsX11_back_r4 : List Cond := [Cond.instanceMethod yX3_take, Cond.selects RX3 yX3_take yX3_take, Cond.code yX3_take cX3_take 7 none, Cond.fieldLink RX3 11 "VoiceHeaps$Gathering" "sorted" "[[I", Cond.methodLink RX3 29 Lib.Math.max.name, Cond.static Lib.Math.max.name, Cond.initialized "java/lang/Math", Cond.code Lib.Math.max.name Lib.Math.max.code 2 (some .int), Cond.methodLink RX2 68 yX2_addPieces, Cond.instanceMethod yX2_addPieces, Cond.selects RX2 yX2_addPieces yX2_addPieces, Cond.code yX2_addPieces cX2_addPieces 8 none, Cond.methodLink RX2 84 Lib.Math.max.name, Cond.methodLink RX2 90 Lib.Math.min.name, Cond.static Lib.Math.min.name, Cond.code Lib.Math.min.name Lib.Math.min.code 2 (some .int), Cond.fieldLink RX2 9 "VoiceHeaps$Cutting" "first" "[I", Cond.fieldLink RX2 15 "VoiceHeaps$Cutting" "size" "[I", Cond.fieldLink RX2 18 "VoiceHeaps$Cutting" "spread" "[I", Cond.fieldLink RX2 24 "VoiceHeaps$Cutting" "stretchOf" "[I", Cond.fieldLink RX2 21 "VoiceHeaps$Cutting" "middles" "[I", Cond.methodLink RX2 93 yX3_writeMiddle, Cond.instanceMethod yX3_writeMiddle, Cond.selects RX3 yX3_writeMiddle yX3_writeMiddle]
def wsX11_back_r5 : List Cond := [Cond.code yX3_writeMiddle cX3_writeMiddle 4 none, Cond.methodLink RX11 306 yX1_tie, Cond.instanceMethod yX1_tie, Cond.selects RX1 yX1_tie yX1_tie, Cond.initialized RX1, Cond.code yX1_tie cX1_tie 7 none, Cond.methodLink RX1 29 Lib.Math.min.name, Cond.fieldLink RX1 35 "VoiceHeaps$Bonds" "pieces" "I", Cond.fieldLink RX1 11 "VoiceHeaps$Bonds" "bond" "[[I", Cond.methodLink RX1 36 yX2_likeness, Cond.instanceMethod yX2_likeness, Cond.selects RX2 yX2_likeness yX2_likeness, Cond.code yX2_likeness cX2_likeness 4 (some .int), Cond.static yX11_off, Cond.code yX11_off cX11_off 6 (some .int), Cond.methodLink RX11 326 Lib.Math.abs.name, Cond.static Lib.Math.abs.name, Cond.code Lib.Math.abs.name Lib.Math.abs.code 1 (some .int), Cond.methodLink RX1 40 yX2_doTouch, Cond.instanceMethod yX2_doTouch, Cond.selects RX2 yX2_doTouch yX2_doTouch, Cond.code yX2_doTouch cX2_doTouch 3 (some .boolean), Cond.methodLink RX2 100 Lib.Math.abs.name, Cond.methodLink RX1 44 yX1_fillGains]
def wsX11_back_r6 : List Cond := [Cond.instanceMethod yX1_fillGains, Cond.selects RX1 yX1_fillGains yX1_fillGains, Cond.code yX1_fillGains cX1_fillGains 6 none, Cond.fieldLink RX1 19 "VoiceHeaps$Bonds" "gain" "[I", Cond.methodLink RX11 310 yX0_findBest, Cond.instanceMethod yX0_findBest, Cond.selects RX0 yX0_findBest yX0_findBest, Cond.initialized RX0, Cond.code yX0_findBest cX0_findBest 2 none, Cond.fieldLink RX0 25 "VoiceHeaps$AllHeapings" "isForNear" "Z", Cond.fieldLink RX0 12 "VoiceHeaps$AllHeapings" "best" "LVoiceHeaps$Heaping;", Cond.constant RX0 29 (-1000000000), Cond.fieldLink RX0 22 "VoiceHeaps$AllHeapings" "members" "[I", Cond.methodLink RX0 34 yJ7_fill_53178, Cond.methodLink RX0 40 yX0_deal, Cond.static yX0_deal, Cond.code yX0_deal cX0_deal 9 none, Cond.fieldLink RX0 18 "VoiceHeaps$AllHeapings" "heapOf" "[I", Cond.methodLink RX0 74 Lib.Math.max.name, Cond.methodLink RX0 70 yX0_meet, Cond.instanceMethod yX0_meet, Cond.selects RX0 yX0_meet yX0_meet, Cond.code yX0_meet cX0_meet 7 none, Cond.methodLink RX0 87 yX0_meetNear]
def wsX11_back_r7 : List Cond := [Cond.instanceMethod yX0_meetNear, Cond.selects RX0 yX0_meetNear yX0_meetNear, Cond.code yX0_meetNear cX0_meetNear 5 none, Cond.fieldLink RX0 44 "VoiceHeaps$AllHeapings" "least" "I", Cond.fieldLink RX0 47 "VoiceHeaps$AllHeapings" "nearOnes" "I", Cond.fieldLink RX0 50 "VoiceHeaps$AllHeapings" "fewest" "I", Cond.methodLink RX0 95 Lib.Math.min.name, Cond.fieldLink RX0 53 "VoiceHeaps$AllHeapings" "most" "I", Cond.fieldLink RX0 58 "VoiceHeaps$AllHeapings" "always" "J", Cond.fieldLink RX0 62 "VoiceHeaps$AllHeapings" "ever" "J", Cond.methodLink RX0 80 yX1_gainOf, Cond.instanceMethod yX1_gainOf, Cond.selects RX1 yX1_gainOf yX1_gainOf, Cond.code yX1_gainOf cX1_gainOf 4 (some .int), Cond.methodLink RX0 83 yX0_placeOfPairs, Cond.static yX0_placeOfPairs, Cond.code yX0_placeOfPairs cX0_placeOfPairs 1 (some .int), Cond.methodLink RX11 314 yX4_findMiddles, Cond.instanceMethod yX4_findMiddles, Cond.selects RX4 yX4_findMiddles yX4_findMiddles, Cond.initialized RX4, Cond.code yX4_findMiddles cX4_findMiddles 7 none, Cond.fieldLink RX4 27 "VoiceHeaps$Heaping" "heaps" "I", Cond.fieldLink RX4 9 "VoiceHeaps$Heaping" "heapOf" "[I"]
def wsX11_back_r8 : List Cond := [Cond.fieldLink RX4 18 "VoiceHeaps$Heaping" "middles" "[I", Cond.methodLink RX4 31 yX3_empty, Cond.methodLink RX4 46 yX3_take, Cond.methodLink RX4 50 yX3_writeMiddle, Cond.methodLink RX11 318 yX1_join, Cond.instanceMethod yX1_join, Cond.selects RX1 yX1_join yX1_join, Cond.code yX1_join cX1_join 4 none, Cond.fieldLink RX1 16 "VoiceHeaps$Bonds" "link" "[[I", Cond.methodLink RX1 53 yX1_joinTwo, Cond.instanceMethod yX1_joinTwo, Cond.selects RX1 yX1_joinTwo yX1_joinTwo, Cond.code yX1_joinTwo cX1_joinTwo 7 (some .boolean), Cond.methodLink RX1 57 yX4_numberHeaps, Cond.instanceMethod yX4_numberHeaps, Cond.selects RX4 yX4_numberHeaps yX4_numberHeaps, Cond.code yX4_numberHeaps cX4_numberHeaps 4 none, Cond.fieldLink RX4 15 "VoiceHeaps$Heaping" "renamed" "[I", Cond.methodLink RX4 21 yJ7_fill_53178, Cond.methodLink RX1 60 yX1_worthOf, Cond.instanceMethod yX1_worthOf, Cond.selects RX1 yX1_worthOf yX1_worthOf, Cond.code yX1_worthOf cX1_worthOf 5 (some .int), Cond.methodLink RX11 246 yX5_nearestTo]
def wsX11_back_r9 : List Cond := [Cond.instanceMethod yX5_nearestTo, Cond.selects RX5 yX5_nearestTo yX5_nearestTo, Cond.initialized RX5, Cond.code yX5_nearestTo cX5_nearestTo 8 (some .int), Cond.fieldLink RX5 21 "VoiceHeaps$KeptVoices" "voices" "I", Cond.fieldLink RX5 15 "VoiceHeaps$KeptVoices" "middles" "[I"]
def wsX11_back : List Cond := .code yX11_back cX11_back 5 (some .int) :: ((wsX11_back_r1 ++ (wsX11_back_r2 ++ (wsX11_back_r3 ++ (wsX11_back_r4 ++ (wsX11_back_r5 ++ (wsX11_back_r6 ++ (wsX11_back_r7 ++ (wsX11_back_r8 ++ wsX11_back_r9)))))))) ++ wsX110 ++ wsX00 ++ wsX50 ++ wsX40 ++ wsX20 ++ wsX80 ++ wsX70 ++ wsX30 ++ wsX10)
def wsX11_odds_r1 : List Cond := [Cond.fieldLink RX11 61 "VoiceHeaps" "kept" "LVoiceHeaps$KeptVoices;", Cond.fieldLink RX11 33 "VoiceHeaps" "cutting" "LVoiceHeaps$Cutting;", Cond.fieldLink RX11 47 "VoiceHeaps" "all" "LVoiceHeaps$AllHeapings;", Cond.methodLink RX11 222 yX11_isHeapNumber, Cond.static yX11_isHeapNumber, Cond.initialized RX11, Cond.code yX11_isHeapNumber cX11_isHeapNumber 1 (some .boolean), Cond.methodLink RX11 104 yX11_within, Cond.static yX11_within, Cond.code yX11_within cX11_within 3 (some .boolean), Cond.methodLink RX11 240 yX5_has, Cond.instanceMethod yX5_has, Cond.selects RX5 yX5_has yX5_has, Cond.initialized RX5, Cond.code yX5_has cX5_has 2 (some .boolean), Cond.fieldLink RX5 21 "VoiceHeaps$KeptVoices" "voices" "I", Cond.methodLink RX11 225 yX11_refusedHeap, Cond.instanceMethod yX11_refusedHeap, Cond.selects RX11 yX11_refusedHeap yX11_refusedHeap, Cond.code yX11_refusedHeap cX11_refusedHeap 2 (some .int), Cond.methodLink RX11 190 yX11_heapNow, Cond.instanceMethod yX11_heapNow, Cond.selects RX11 yX11_heapNow yX11_heapNow, Cond.code yX11_heapNow cX11_heapNow 1 (some .boolean)]
def wsX11_odds_r2 : List Cond := [Cond.fieldLink RX11 98 "VoiceHeaps" "heapsAreOld" "Z", Cond.fieldLink RX11 40 "VoiceHeaps" "bonds" "LVoiceHeaps$Bonds;", Cond.fieldLink RX11 10 "VoiceHeaps" "ruleText" "LVoiceHeaps$RuleText;", Cond.fieldLink RX11 19 "VoiceHeaps" "book" "LVoiceHeaps$RowBook;", Cond.fieldLink RX11 26 "VoiceHeaps" "gathering" "LVoiceHeaps$Gathering;", Cond.fieldLink RX11 54 "VoiceHeaps" "joined" "LVoiceHeaps$Heaping;", Cond.methodLink RX11 151 yX11_cutNow, Cond.instanceMethod yX11_cutNow, Cond.selects RX11 yX11_cutNow yX11_cutNow, Cond.code yX11_cutNow cX11_cutNow 1 none, Cond.fieldLink RX11 94 "VoiceHeaps" "cutIsOld" "Z", Cond.methodLink RX11 122 yX8_ruleNow, Cond.instanceMethod yX8_ruleNow, Cond.selects RX8 yX8_ruleNow yX8_ruleNow, Cond.initialized RX8, Cond.code yX8_ruleNow cX8_ruleNow 2 (some .int), Cond.fieldLink RX8 13 "VoiceHeaps$RuleText" "now" "[I", Cond.methodLink RX11 302 yX2_cut, Cond.instanceMethod yX2_cut, Cond.selects RX2 yX2_cut yX2_cut, Cond.initialized RX2, Cond.code yX2_cut cX2_cut 7 none, Cond.fieldLink RX2 36 "VoiceHeaps$Cutting" "pieces" "I", Cond.fieldLink RX2 40 "VoiceHeaps$Cutting" "stretches" "I"]
def wsX11_odds_r3 : List Cond := [Cond.fieldLink RX2 43 "VoiceHeaps$Cutting" "total" "I", Cond.fieldLink RX2 46 "VoiceHeaps$Cutting" "heardRows" "I", Cond.fieldLink RX2 27 "VoiceHeaps$Cutting" "pieceOf" "[I", Cond.fieldLink RX2 30 "VoiceHeaps$Cutting" "cost" "[I", Cond.methodLink RX2 49 yJ7_fill_53178, Cond.static yJ7_fill_53178, Cond.initialized RJ7, Cond.code yJ7_fill_53178 cJ7_fill_53178 4 none, Cond.methodLink RX2 60 yX7_isHeard, Cond.instanceMethod yX7_isHeard, Cond.selects RX7 yX7_isHeard yX7_isHeard, Cond.initialized RX7, Cond.code yX7_isHeard cX7_isHeard 5 (some .boolean), Cond.fieldLink RX7 15 "VoiceHeaps$RowBook" "isDeaf" "[Z", Cond.fieldLink RX7 19 "VoiceHeaps$RowBook" "isOut" "[Z", Cond.fieldLink RX7 9 "VoiceHeaps$RowBook" "numbers" "[I", Cond.methodLink RX2 64 yX2_findCosts, Cond.instanceMethod yX2_findCosts, Cond.selects RX2 yX2_findCosts yX2_findCosts, Cond.code yX2_findCosts cX2_findCosts 9 none, Cond.constant RX2 77 (1000000000), Cond.fieldLink RX2 33 "VoiceHeaps$Cutting" "most" "[I", Cond.methodLink RX2 72 yX3_empty, Cond.instanceMethod yX3_empty]
def wsX11_odds_r4 : List Cond := [Cond.selects RX3 yX3_empty yX3_empty, Cond.initialized RX3, Cond.code yX3_empty cX3_empty 1 none, Cond.fieldLink RX3 16 "VoiceHeaps$Gathering" "rows" "I", Cond.fieldLink RX3 20 "VoiceHeaps$Gathering" "spread" "I", Cond.methodLink RX2 78 yX3_take, Cond.instanceMethod yX3_take, Cond.selects RX3 yX3_take yX3_take, Cond.code yX3_take cX3_take 7 none, Cond.fieldLink RX3 11 "VoiceHeaps$Gathering" "sorted" "[[I", Cond.methodLink RX3 29 Lib.Math.max.name, Cond.static Lib.Math.max.name, Cond.initialized "java/lang/Math", Cond.code Lib.Math.max.name Lib.Math.max.code 2 (some .int), Cond.methodLink RX2 68 yX2_addPieces, Cond.instanceMethod yX2_addPieces, Cond.selects RX2 yX2_addPieces yX2_addPieces, Cond.code yX2_addPieces cX2_addPieces 8 none, Cond.methodLink RX2 84 Lib.Math.max.name, Cond.methodLink RX2 90 Lib.Math.min.name, Cond.static Lib.Math.min.name, Cond.code Lib.Math.min.name Lib.Math.min.code 2 (some .int), Cond.fieldLink RX2 9 "VoiceHeaps$Cutting" "first" "[I", Cond.fieldLink RX2 15 "VoiceHeaps$Cutting" "size" "[I"]
def wsX11_odds_r5 : List Cond := [Cond.fieldLink RX2 18 "VoiceHeaps$Cutting" "spread" "[I", Cond.fieldLink RX2 24 "VoiceHeaps$Cutting" "stretchOf" "[I", Cond.fieldLink RX2 21 "VoiceHeaps$Cutting" "middles" "[I", Cond.methodLink RX2 93 yX3_writeMiddle, Cond.instanceMethod yX3_writeMiddle, Cond.selects RX3 yX3_writeMiddle yX3_writeMiddle, Cond.code yX3_writeMiddle cX3_writeMiddle 4 none, Cond.methodLink RX11 306 yX1_tie, Cond.instanceMethod yX1_tie, Cond.selects RX1 yX1_tie yX1_tie, Cond.initialized RX1, Cond.code yX1_tie cX1_tie 7 none, Cond.methodLink RX1 29 Lib.Math.min.name, Cond.fieldLink RX1 35 "VoiceHeaps$Bonds" "pieces" "I", Cond.fieldLink RX1 11 "VoiceHeaps$Bonds" "bond" "[[I", Cond.methodLink RX1 36 yX2_likeness, Cond.instanceMethod yX2_likeness, Cond.selects RX2 yX2_likeness yX2_likeness, Cond.code yX2_likeness cX2_likeness 4 (some .int), Cond.static yX11_off, Cond.code yX11_off cX11_off 6 (some .int), Cond.methodLink RX11 326 Lib.Math.abs.name, Cond.static Lib.Math.abs.name, Cond.code Lib.Math.abs.name Lib.Math.abs.code 1 (some .int)]
def wsX11_odds_r6 : List Cond := [Cond.methodLink RX1 40 yX2_doTouch, Cond.instanceMethod yX2_doTouch, Cond.selects RX2 yX2_doTouch yX2_doTouch, Cond.code yX2_doTouch cX2_doTouch 3 (some .boolean), Cond.methodLink RX2 100 Lib.Math.abs.name, Cond.methodLink RX1 44 yX1_fillGains, Cond.instanceMethod yX1_fillGains, Cond.selects RX1 yX1_fillGains yX1_fillGains, Cond.code yX1_fillGains cX1_fillGains 6 none, Cond.fieldLink RX1 19 "VoiceHeaps$Bonds" "gain" "[I", Cond.methodLink RX11 310 yX0_findBest, Cond.instanceMethod yX0_findBest, Cond.selects RX0 yX0_findBest yX0_findBest, Cond.initialized RX0, Cond.code yX0_findBest cX0_findBest 2 none, Cond.fieldLink RX0 25 "VoiceHeaps$AllHeapings" "isForNear" "Z", Cond.fieldLink RX0 12 "VoiceHeaps$AllHeapings" "best" "LVoiceHeaps$Heaping;", Cond.constant RX0 29 (-1000000000), Cond.fieldLink RX0 22 "VoiceHeaps$AllHeapings" "members" "[I", Cond.methodLink RX0 34 yJ7_fill_53178, Cond.methodLink RX0 40 yX0_deal, Cond.static yX0_deal, Cond.code yX0_deal cX0_deal 9 none, Cond.fieldLink RX0 18 "VoiceHeaps$AllHeapings" "heapOf" "[I"]
def wsX11_odds_r7 : List Cond := [Cond.methodLink RX0 74 Lib.Math.max.name, Cond.methodLink RX0 70 yX0_meet, Cond.instanceMethod yX0_meet, Cond.selects RX0 yX0_meet yX0_meet, Cond.code yX0_meet cX0_meet 7 none, Cond.methodLink RX0 87 yX0_meetNear, Cond.instanceMethod yX0_meetNear, Cond.selects RX0 yX0_meetNear yX0_meetNear, Cond.code yX0_meetNear cX0_meetNear 5 none, Cond.fieldLink RX0 44 "VoiceHeaps$AllHeapings" "least" "I", Cond.fieldLink RX0 47 "VoiceHeaps$AllHeapings" "nearOnes" "I", Cond.fieldLink RX0 50 "VoiceHeaps$AllHeapings" "fewest" "I", Cond.methodLink RX0 95 Lib.Math.min.name, Cond.fieldLink RX0 53 "VoiceHeaps$AllHeapings" "most" "I", Cond.fieldLink RX0 58 "VoiceHeaps$AllHeapings" "always" "J", Cond.fieldLink RX0 62 "VoiceHeaps$AllHeapings" "ever" "J", Cond.methodLink RX0 80 yX1_gainOf, Cond.instanceMethod yX1_gainOf, Cond.selects RX1 yX1_gainOf yX1_gainOf, Cond.code yX1_gainOf cX1_gainOf 4 (some .int), Cond.methodLink RX0 83 yX0_placeOfPairs, Cond.static yX0_placeOfPairs, Cond.code yX0_placeOfPairs cX0_placeOfPairs 1 (some .int), Cond.methodLink RX11 314 yX4_findMiddles]
def wsX11_odds_r8 : List Cond := [Cond.instanceMethod yX4_findMiddles, Cond.selects RX4 yX4_findMiddles yX4_findMiddles, Cond.initialized RX4, Cond.code yX4_findMiddles cX4_findMiddles 7 none, Cond.fieldLink RX4 27 "VoiceHeaps$Heaping" "heaps" "I", Cond.fieldLink RX4 9 "VoiceHeaps$Heaping" "heapOf" "[I", Cond.fieldLink RX4 18 "VoiceHeaps$Heaping" "middles" "[I", Cond.methodLink RX4 31 yX3_empty, Cond.methodLink RX4 46 yX3_take, Cond.methodLink RX4 50 yX3_writeMiddle, Cond.methodLink RX11 318 yX1_join, Cond.instanceMethod yX1_join, Cond.selects RX1 yX1_join yX1_join, Cond.code yX1_join cX1_join 4 none, Cond.fieldLink RX1 16 "VoiceHeaps$Bonds" "link" "[[I", Cond.methodLink RX1 53 yX1_joinTwo, Cond.instanceMethod yX1_joinTwo, Cond.selects RX1 yX1_joinTwo yX1_joinTwo, Cond.code yX1_joinTwo cX1_joinTwo 7 (some .boolean), Cond.methodLink RX1 57 yX4_numberHeaps, Cond.instanceMethod yX4_numberHeaps, Cond.selects RX4 yX4_numberHeaps yX4_numberHeaps, Cond.code yX4_numberHeaps cX4_numberHeaps 4 none, Cond.fieldLink RX4 15 "VoiceHeaps$Heaping" "renamed" "[I"]
def wsX11_odds_r9 : List Cond := [Cond.methodLink RX4 21 yJ7_fill_53178, Cond.methodLink RX1 60 yX1_worthOf, Cond.instanceMethod yX1_worthOf, Cond.selects RX1 yX1_worthOf yX1_worthOf, Cond.code yX1_worthOf cX1_worthOf 5 (some .int), Cond.methodLink RX11 252 yX4_membersOf, Cond.instanceMethod yX4_membersOf, Cond.selects RX4 yX4_membersOf yX4_membersOf, Cond.code yX4_membersOf cX4_membersOf 5 (some .int), Cond.methodLink RX11 255 yX5_dealsOf, Cond.instanceMethod yX5_dealsOf, Cond.selects RX5 yX5_dealsOf yX5_dealsOf, Cond.code yX5_dealsOf cX5_dealsOf 9 (some .int), Cond.methodLink RX5 45 Lib.Math.min.name, Cond.fieldLink RX5 18 "VoiceHeaps$KeptVoices" "offs" "[I", Cond.methodLink RX5 50 yX5_fillOffs, Cond.instanceMethod yX5_fillOffs, Cond.selects RX5 yX5_fillOffs yX5_fillOffs, Cond.code yX5_fillOffs cX5_fillOffs 8 none, Cond.fieldLink RX5 15 "VoiceHeaps$KeptVoices" "middles" "[I", Cond.methodLink RX5 54 yJ6_bitCount_0f7a4, Cond.static yJ6_bitCount_0f7a4, Cond.initialized RJ6, Cond.code yJ6_bitCount_0f7a4 cJ6_bitCount_0f7a4 1 (some .int)]
def wsX11_odds_r10 : List Cond := [Cond.constant RJ6 265 (1431655765), Cond.constant RJ6 266 (858993459), Cond.constant RJ6 267 (252645135)]
def wsX11_odds : List Cond := .code yX11_odds cX11_odds 5 (some .int) :: ((wsX11_odds_r1 ++ (wsX11_odds_r2 ++ (wsX11_odds_r3 ++ (wsX11_odds_r4 ++ (wsX11_odds_r5 ++ (wsX11_odds_r6 ++ (wsX11_odds_r7 ++ (wsX11_odds_r8 ++ (wsX11_odds_r9 ++ wsX11_odds_r10))))))))) ++ wsX110 ++ wsX00 ++ wsX20 ++ wsX50 ++ wsX40 ++ wsX80 ++ wsX70 ++ wsX30 ++ wsX10)
def wsX11_heapOfRow : List Cond := .code yX11_heapOfRow cX11_heapOfRow 3 (some .int) :: ([.fieldLink RX11 33 "VoiceHeaps" "cutting" "LVoiceHeaps$Cutting;", .fieldLink RX11 47 "VoiceHeaps" "all" "LVoiceHeaps$AllHeapings;", .methodLink RX11 104 yX11_within, .static yX11_within, .initialized RX11, .code yX11_within cX11_within 3 (some .boolean)] ++ wsX110 ++ wsX20 ++ wsX00 ++ wsX40)
def wsX11_show_r1 : List Cond := [Cond.fieldLink RX11 19 "VoiceHeaps" "book" "LVoiceHeaps$RowBook;", Cond.fieldLink RX11 86 "VoiceHeaps" "shownHeap" "[I", Cond.fieldLink RX11 90 "VoiceHeaps" "shownRows" "I", Cond.methodLink RX11 190 yX11_heapNow, Cond.instanceMethod yX11_heapNow, Cond.selects RX11 yX11_heapNow yX11_heapNow, Cond.initialized RX11, Cond.code yX11_heapNow cX11_heapNow 1 (some .boolean), Cond.fieldLink RX11 33 "VoiceHeaps" "cutting" "LVoiceHeaps$Cutting;", Cond.fieldLink RX11 98 "VoiceHeaps" "heapsAreOld" "Z", Cond.fieldLink RX11 40 "VoiceHeaps" "bonds" "LVoiceHeaps$Bonds;", Cond.fieldLink RX11 10 "VoiceHeaps" "ruleText" "LVoiceHeaps$RuleText;", Cond.fieldLink RX11 47 "VoiceHeaps" "all" "LVoiceHeaps$AllHeapings;", Cond.fieldLink RX11 26 "VoiceHeaps" "gathering" "LVoiceHeaps$Gathering;", Cond.fieldLink RX11 54 "VoiceHeaps" "joined" "LVoiceHeaps$Heaping;", Cond.methodLink RX11 151 yX11_cutNow, Cond.instanceMethod yX11_cutNow, Cond.selects RX11 yX11_cutNow yX11_cutNow, Cond.code yX11_cutNow cX11_cutNow 1 none, Cond.fieldLink RX11 94 "VoiceHeaps" "cutIsOld" "Z", Cond.methodLink RX11 122 yX8_ruleNow, Cond.instanceMethod yX8_ruleNow, Cond.selects RX8 yX8_ruleNow yX8_ruleNow, Cond.initialized RX8]
def wsX11_show_r2 : List Cond := [Cond.code yX8_ruleNow cX8_ruleNow 2 (some .int), Cond.fieldLink RX8 13 "VoiceHeaps$RuleText" "now" "[I", Cond.methodLink RX11 302 yX2_cut, Cond.instanceMethod yX2_cut, Cond.selects RX2 yX2_cut yX2_cut, Cond.initialized RX2, Cond.code yX2_cut cX2_cut 7 none, Cond.fieldLink RX2 36 "VoiceHeaps$Cutting" "pieces" "I", Cond.fieldLink RX2 40 "VoiceHeaps$Cutting" "stretches" "I", Cond.fieldLink RX2 43 "VoiceHeaps$Cutting" "total" "I", Cond.fieldLink RX2 46 "VoiceHeaps$Cutting" "heardRows" "I", Cond.fieldLink RX2 27 "VoiceHeaps$Cutting" "pieceOf" "[I", Cond.fieldLink RX2 30 "VoiceHeaps$Cutting" "cost" "[I", Cond.methodLink RX2 49 yJ7_fill_53178, Cond.static yJ7_fill_53178, Cond.initialized RJ7, Cond.code yJ7_fill_53178 cJ7_fill_53178 4 none, Cond.methodLink RX2 60 yX7_isHeard, Cond.instanceMethod yX7_isHeard, Cond.selects RX7 yX7_isHeard yX7_isHeard, Cond.initialized RX7, Cond.code yX7_isHeard cX7_isHeard 5 (some .boolean), Cond.fieldLink RX7 15 "VoiceHeaps$RowBook" "isDeaf" "[Z", Cond.fieldLink RX7 19 "VoiceHeaps$RowBook" "isOut" "[Z"]
def wsX11_show_r3 : List Cond := [Cond.fieldLink RX7 9 "VoiceHeaps$RowBook" "numbers" "[I", Cond.methodLink RX2 64 yX2_findCosts, Cond.instanceMethod yX2_findCosts, Cond.selects RX2 yX2_findCosts yX2_findCosts, Cond.code yX2_findCosts cX2_findCosts 9 none, Cond.constant RX2 77 (1000000000), Cond.fieldLink RX2 33 "VoiceHeaps$Cutting" "most" "[I", Cond.methodLink RX2 72 yX3_empty, Cond.instanceMethod yX3_empty, Cond.selects RX3 yX3_empty yX3_empty, Cond.initialized RX3, Cond.code yX3_empty cX3_empty 1 none, Cond.fieldLink RX3 16 "VoiceHeaps$Gathering" "rows" "I", Cond.fieldLink RX3 20 "VoiceHeaps$Gathering" "spread" "I", Cond.methodLink RX2 78 yX3_take, Cond.instanceMethod yX3_take, Cond.selects RX3 yX3_take yX3_take, Cond.code yX3_take cX3_take 7 none, Cond.fieldLink RX3 11 "VoiceHeaps$Gathering" "sorted" "[[I", Cond.methodLink RX3 29 Lib.Math.max.name, Cond.static Lib.Math.max.name, Cond.initialized "java/lang/Math", Cond.code Lib.Math.max.name Lib.Math.max.code 2 (some .int), Cond.methodLink RX2 68 yX2_addPieces]
def wsX11_show_r4 : List Cond := [Cond.instanceMethod yX2_addPieces, Cond.selects RX2 yX2_addPieces yX2_addPieces, Cond.code yX2_addPieces cX2_addPieces 8 none, Cond.methodLink RX2 84 Lib.Math.max.name, Cond.methodLink RX2 90 Lib.Math.min.name, Cond.static Lib.Math.min.name, Cond.code Lib.Math.min.name Lib.Math.min.code 2 (some .int), Cond.fieldLink RX2 9 "VoiceHeaps$Cutting" "first" "[I", Cond.fieldLink RX2 15 "VoiceHeaps$Cutting" "size" "[I", Cond.fieldLink RX2 18 "VoiceHeaps$Cutting" "spread" "[I", Cond.fieldLink RX2 24 "VoiceHeaps$Cutting" "stretchOf" "[I", Cond.fieldLink RX2 21 "VoiceHeaps$Cutting" "middles" "[I", Cond.methodLink RX2 93 yX3_writeMiddle, Cond.instanceMethod yX3_writeMiddle, Cond.selects RX3 yX3_writeMiddle yX3_writeMiddle, Cond.code yX3_writeMiddle cX3_writeMiddle 4 none, Cond.methodLink RX11 306 yX1_tie, Cond.instanceMethod yX1_tie, Cond.selects RX1 yX1_tie yX1_tie, Cond.initialized RX1, Cond.code yX1_tie cX1_tie 7 none, Cond.methodLink RX1 29 Lib.Math.min.name, Cond.fieldLink RX1 35 "VoiceHeaps$Bonds" "pieces" "I", Cond.fieldLink RX1 11 "VoiceHeaps$Bonds" "bond" "[[I"]
def wsX11_show_r5 : List Cond := [Cond.methodLink RX1 36 yX2_likeness, Cond.instanceMethod yX2_likeness, Cond.selects RX2 yX2_likeness yX2_likeness, Cond.code yX2_likeness cX2_likeness 4 (some .int), Cond.static yX11_off, Cond.code yX11_off cX11_off 6 (some .int), Cond.methodLink RX11 326 Lib.Math.abs.name, Cond.static Lib.Math.abs.name, Cond.code Lib.Math.abs.name Lib.Math.abs.code 1 (some .int), Cond.methodLink RX1 40 yX2_doTouch, Cond.instanceMethod yX2_doTouch, Cond.selects RX2 yX2_doTouch yX2_doTouch, Cond.code yX2_doTouch cX2_doTouch 3 (some .boolean), Cond.methodLink RX2 100 Lib.Math.abs.name, Cond.methodLink RX1 44 yX1_fillGains, Cond.instanceMethod yX1_fillGains, Cond.selects RX1 yX1_fillGains yX1_fillGains, Cond.code yX1_fillGains cX1_fillGains 6 none, Cond.fieldLink RX1 19 "VoiceHeaps$Bonds" "gain" "[I", Cond.methodLink RX11 310 yX0_findBest, Cond.instanceMethod yX0_findBest, Cond.selects RX0 yX0_findBest yX0_findBest, Cond.initialized RX0, Cond.code yX0_findBest cX0_findBest 2 none]
def wsX11_show_r6 : List Cond := [Cond.fieldLink RX0 25 "VoiceHeaps$AllHeapings" "isForNear" "Z", Cond.fieldLink RX0 12 "VoiceHeaps$AllHeapings" "best" "LVoiceHeaps$Heaping;", Cond.constant RX0 29 (-1000000000), Cond.fieldLink RX0 22 "VoiceHeaps$AllHeapings" "members" "[I", Cond.methodLink RX0 34 yJ7_fill_53178, Cond.methodLink RX0 40 yX0_deal, Cond.static yX0_deal, Cond.code yX0_deal cX0_deal 9 none, Cond.fieldLink RX0 18 "VoiceHeaps$AllHeapings" "heapOf" "[I", Cond.methodLink RX0 74 Lib.Math.max.name, Cond.methodLink RX0 70 yX0_meet, Cond.instanceMethod yX0_meet, Cond.selects RX0 yX0_meet yX0_meet, Cond.code yX0_meet cX0_meet 7 none, Cond.methodLink RX0 87 yX0_meetNear, Cond.instanceMethod yX0_meetNear, Cond.selects RX0 yX0_meetNear yX0_meetNear, Cond.code yX0_meetNear cX0_meetNear 5 none, Cond.fieldLink RX0 44 "VoiceHeaps$AllHeapings" "least" "I", Cond.fieldLink RX0 47 "VoiceHeaps$AllHeapings" "nearOnes" "I", Cond.fieldLink RX0 50 "VoiceHeaps$AllHeapings" "fewest" "I", Cond.methodLink RX0 95 Lib.Math.min.name, Cond.fieldLink RX0 53 "VoiceHeaps$AllHeapings" "most" "I", Cond.fieldLink RX0 58 "VoiceHeaps$AllHeapings" "always" "J"]
def wsX11_show_r7 : List Cond := [Cond.fieldLink RX0 62 "VoiceHeaps$AllHeapings" "ever" "J", Cond.methodLink RX0 80 yX1_gainOf, Cond.instanceMethod yX1_gainOf, Cond.selects RX1 yX1_gainOf yX1_gainOf, Cond.code yX1_gainOf cX1_gainOf 4 (some .int), Cond.methodLink RX0 83 yX0_placeOfPairs, Cond.static yX0_placeOfPairs, Cond.code yX0_placeOfPairs cX0_placeOfPairs 1 (some .int), Cond.methodLink RX11 314 yX4_findMiddles, Cond.instanceMethod yX4_findMiddles, Cond.selects RX4 yX4_findMiddles yX4_findMiddles, Cond.initialized RX4, Cond.code yX4_findMiddles cX4_findMiddles 7 none, Cond.fieldLink RX4 27 "VoiceHeaps$Heaping" "heaps" "I", Cond.fieldLink RX4 9 "VoiceHeaps$Heaping" "heapOf" "[I", Cond.fieldLink RX4 18 "VoiceHeaps$Heaping" "middles" "[I", Cond.methodLink RX4 31 yX3_empty, Cond.methodLink RX4 46 yX3_take, Cond.methodLink RX4 50 yX3_writeMiddle, Cond.methodLink RX11 318 yX1_join, Cond.instanceMethod yX1_join, Cond.selects RX1 yX1_join yX1_join, Cond.code yX1_join cX1_join 4 none, Cond.fieldLink RX1 16 "VoiceHeaps$Bonds" "link" "[[I"]
def wsX11_show_r8 : List Cond := [Cond.methodLink RX1 53 yX1_joinTwo, Cond.instanceMethod yX1_joinTwo, Cond.selects RX1 yX1_joinTwo yX1_joinTwo, Cond.code yX1_joinTwo cX1_joinTwo 7 (some .boolean), Cond.methodLink RX1 57 yX4_numberHeaps, Cond.instanceMethod yX4_numberHeaps, Cond.selects RX4 yX4_numberHeaps yX4_numberHeaps, Cond.code yX4_numberHeaps cX4_numberHeaps 4 none, Cond.fieldLink RX4 15 "VoiceHeaps$Heaping" "renamed" "[I", Cond.methodLink RX4 21 yJ7_fill_53178, Cond.methodLink RX1 60 yX1_worthOf, Cond.instanceMethod yX1_worthOf, Cond.selects RX1 yX1_worthOf yX1_worthOf, Cond.code yX1_worthOf cX1_worthOf 5 (some .int), Cond.methodLink RX11 259 yX11_heapOfRow, Cond.instanceMethod yX11_heapOfRow, Cond.selects RX11 yX11_heapOfRow yX11_heapOfRow, Cond.code yX11_heapOfRow cX11_heapOfRow 3 (some .int), Cond.methodLink RX11 104 yX11_within, Cond.static yX11_within, Cond.code yX11_within cX11_within 3 (some .boolean)]
def wsX11_show : List Cond := .code yX11_show cX11_show 2 (some .int) :: ((wsX11_show_r1 ++ (wsX11_show_r2 ++ (wsX11_show_r3 ++ (wsX11_show_r4 ++ (wsX11_show_r5 ++ (wsX11_show_r6 ++ (wsX11_show_r7 ++ wsX11_show_r8))))))) ++ wsX110 ++ wsX70 ++ wsX20 ++ wsX00 ++ wsX80 ++ wsX30 ++ wsX10 ++ wsX40)
def wsX11_otherwise_r1 : List Cond := [Cond.fieldLink RX11 90 "VoiceHeaps" "shownRows" "I", Cond.fieldLink RX11 19 "VoiceHeaps" "book" "LVoiceHeaps$RowBook;", Cond.fieldLink RX11 86 "VoiceHeaps" "shownHeap" "[I", Cond.methodLink RX11 190 yX11_heapNow, Cond.instanceMethod yX11_heapNow, Cond.selects RX11 yX11_heapNow yX11_heapNow, Cond.initialized RX11, Cond.code yX11_heapNow cX11_heapNow 1 (some .boolean), Cond.fieldLink RX11 33 "VoiceHeaps" "cutting" "LVoiceHeaps$Cutting;", Cond.fieldLink RX11 98 "VoiceHeaps" "heapsAreOld" "Z", Cond.fieldLink RX11 40 "VoiceHeaps" "bonds" "LVoiceHeaps$Bonds;", Cond.fieldLink RX11 10 "VoiceHeaps" "ruleText" "LVoiceHeaps$RuleText;", Cond.fieldLink RX11 47 "VoiceHeaps" "all" "LVoiceHeaps$AllHeapings;", Cond.fieldLink RX11 26 "VoiceHeaps" "gathering" "LVoiceHeaps$Gathering;", Cond.fieldLink RX11 54 "VoiceHeaps" "joined" "LVoiceHeaps$Heaping;", Cond.methodLink RX11 151 yX11_cutNow, Cond.instanceMethod yX11_cutNow, Cond.selects RX11 yX11_cutNow yX11_cutNow, Cond.code yX11_cutNow cX11_cutNow 1 none, Cond.fieldLink RX11 94 "VoiceHeaps" "cutIsOld" "Z", Cond.methodLink RX11 122 yX8_ruleNow, Cond.instanceMethod yX8_ruleNow, Cond.selects RX8 yX8_ruleNow yX8_ruleNow, Cond.initialized RX8]
def wsX11_otherwise_r2 : List Cond := [Cond.code yX8_ruleNow cX8_ruleNow 2 (some .int), Cond.fieldLink RX8 13 "VoiceHeaps$RuleText" "now" "[I", Cond.methodLink RX11 302 yX2_cut, Cond.instanceMethod yX2_cut, Cond.selects RX2 yX2_cut yX2_cut, Cond.initialized RX2, Cond.code yX2_cut cX2_cut 7 none, Cond.fieldLink RX2 36 "VoiceHeaps$Cutting" "pieces" "I", Cond.fieldLink RX2 40 "VoiceHeaps$Cutting" "stretches" "I", Cond.fieldLink RX2 43 "VoiceHeaps$Cutting" "total" "I", Cond.fieldLink RX2 46 "VoiceHeaps$Cutting" "heardRows" "I", Cond.fieldLink RX2 27 "VoiceHeaps$Cutting" "pieceOf" "[I", Cond.fieldLink RX2 30 "VoiceHeaps$Cutting" "cost" "[I", Cond.methodLink RX2 49 yJ7_fill_53178, Cond.static yJ7_fill_53178, Cond.initialized RJ7, Cond.code yJ7_fill_53178 cJ7_fill_53178 4 none, Cond.methodLink RX2 60 yX7_isHeard, Cond.instanceMethod yX7_isHeard, Cond.selects RX7 yX7_isHeard yX7_isHeard, Cond.initialized RX7, Cond.code yX7_isHeard cX7_isHeard 5 (some .boolean), Cond.fieldLink RX7 15 "VoiceHeaps$RowBook" "isDeaf" "[Z", Cond.fieldLink RX7 19 "VoiceHeaps$RowBook" "isOut" "[Z"]
def wsX11_otherwise_r3 : List Cond := [Cond.fieldLink RX7 9 "VoiceHeaps$RowBook" "numbers" "[I", Cond.methodLink RX2 64 yX2_findCosts, Cond.instanceMethod yX2_findCosts, Cond.selects RX2 yX2_findCosts yX2_findCosts, Cond.code yX2_findCosts cX2_findCosts 9 none, Cond.constant RX2 77 (1000000000), Cond.fieldLink RX2 33 "VoiceHeaps$Cutting" "most" "[I", Cond.methodLink RX2 72 yX3_empty, Cond.instanceMethod yX3_empty, Cond.selects RX3 yX3_empty yX3_empty, Cond.initialized RX3, Cond.code yX3_empty cX3_empty 1 none, Cond.fieldLink RX3 16 "VoiceHeaps$Gathering" "rows" "I", Cond.fieldLink RX3 20 "VoiceHeaps$Gathering" "spread" "I", Cond.methodLink RX2 78 yX3_take, Cond.instanceMethod yX3_take, Cond.selects RX3 yX3_take yX3_take, Cond.code yX3_take cX3_take 7 none, Cond.fieldLink RX3 11 "VoiceHeaps$Gathering" "sorted" "[[I", Cond.methodLink RX3 29 Lib.Math.max.name, Cond.static Lib.Math.max.name, Cond.initialized "java/lang/Math", Cond.code Lib.Math.max.name Lib.Math.max.code 2 (some .int), Cond.methodLink RX2 68 yX2_addPieces]
def wsX11_otherwise_r4 : List Cond := [Cond.instanceMethod yX2_addPieces, Cond.selects RX2 yX2_addPieces yX2_addPieces, Cond.code yX2_addPieces cX2_addPieces 8 none, Cond.methodLink RX2 84 Lib.Math.max.name, Cond.methodLink RX2 90 Lib.Math.min.name, Cond.static Lib.Math.min.name, Cond.code Lib.Math.min.name Lib.Math.min.code 2 (some .int), Cond.fieldLink RX2 9 "VoiceHeaps$Cutting" "first" "[I", Cond.fieldLink RX2 15 "VoiceHeaps$Cutting" "size" "[I", Cond.fieldLink RX2 18 "VoiceHeaps$Cutting" "spread" "[I", Cond.fieldLink RX2 24 "VoiceHeaps$Cutting" "stretchOf" "[I", Cond.fieldLink RX2 21 "VoiceHeaps$Cutting" "middles" "[I", Cond.methodLink RX2 93 yX3_writeMiddle, Cond.instanceMethod yX3_writeMiddle, Cond.selects RX3 yX3_writeMiddle yX3_writeMiddle, Cond.code yX3_writeMiddle cX3_writeMiddle 4 none, Cond.methodLink RX11 306 yX1_tie, Cond.instanceMethod yX1_tie, Cond.selects RX1 yX1_tie yX1_tie, Cond.initialized RX1, Cond.code yX1_tie cX1_tie 7 none, Cond.methodLink RX1 29 Lib.Math.min.name, Cond.fieldLink RX1 35 "VoiceHeaps$Bonds" "pieces" "I", Cond.fieldLink RX1 11 "VoiceHeaps$Bonds" "bond" "[[I"]
def wsX11_otherwise_r5 : List Cond := [Cond.methodLink RX1 36 yX2_likeness, Cond.instanceMethod yX2_likeness, Cond.selects RX2 yX2_likeness yX2_likeness, Cond.code yX2_likeness cX2_likeness 4 (some .int), Cond.static yX11_off, Cond.code yX11_off cX11_off 6 (some .int), Cond.methodLink RX11 326 Lib.Math.abs.name, Cond.static Lib.Math.abs.name, Cond.code Lib.Math.abs.name Lib.Math.abs.code 1 (some .int), Cond.methodLink RX1 40 yX2_doTouch, Cond.instanceMethod yX2_doTouch, Cond.selects RX2 yX2_doTouch yX2_doTouch, Cond.code yX2_doTouch cX2_doTouch 3 (some .boolean), Cond.methodLink RX2 100 Lib.Math.abs.name, Cond.methodLink RX1 44 yX1_fillGains, Cond.instanceMethod yX1_fillGains, Cond.selects RX1 yX1_fillGains yX1_fillGains, Cond.code yX1_fillGains cX1_fillGains 6 none, Cond.fieldLink RX1 19 "VoiceHeaps$Bonds" "gain" "[I", Cond.methodLink RX11 310 yX0_findBest, Cond.instanceMethod yX0_findBest, Cond.selects RX0 yX0_findBest yX0_findBest, Cond.initialized RX0, Cond.code yX0_findBest cX0_findBest 2 none]
def wsX11_otherwise_r6 : List Cond := [Cond.fieldLink RX0 25 "VoiceHeaps$AllHeapings" "isForNear" "Z", Cond.fieldLink RX0 12 "VoiceHeaps$AllHeapings" "best" "LVoiceHeaps$Heaping;", Cond.constant RX0 29 (-1000000000), Cond.fieldLink RX0 22 "VoiceHeaps$AllHeapings" "members" "[I", Cond.methodLink RX0 34 yJ7_fill_53178, Cond.methodLink RX0 40 yX0_deal, Cond.static yX0_deal, Cond.code yX0_deal cX0_deal 9 none, Cond.fieldLink RX0 18 "VoiceHeaps$AllHeapings" "heapOf" "[I", Cond.methodLink RX0 74 Lib.Math.max.name, Cond.methodLink RX0 70 yX0_meet, Cond.instanceMethod yX0_meet, Cond.selects RX0 yX0_meet yX0_meet, Cond.code yX0_meet cX0_meet 7 none, Cond.methodLink RX0 87 yX0_meetNear, Cond.instanceMethod yX0_meetNear, Cond.selects RX0 yX0_meetNear yX0_meetNear, Cond.code yX0_meetNear cX0_meetNear 5 none, Cond.fieldLink RX0 44 "VoiceHeaps$AllHeapings" "least" "I", Cond.fieldLink RX0 47 "VoiceHeaps$AllHeapings" "nearOnes" "I", Cond.fieldLink RX0 50 "VoiceHeaps$AllHeapings" "fewest" "I", Cond.methodLink RX0 95 Lib.Math.min.name, Cond.fieldLink RX0 53 "VoiceHeaps$AllHeapings" "most" "I", Cond.fieldLink RX0 58 "VoiceHeaps$AllHeapings" "always" "J"]
def wsX11_otherwise_r7 : List Cond := [Cond.fieldLink RX0 62 "VoiceHeaps$AllHeapings" "ever" "J", Cond.methodLink RX0 80 yX1_gainOf, Cond.instanceMethod yX1_gainOf, Cond.selects RX1 yX1_gainOf yX1_gainOf, Cond.code yX1_gainOf cX1_gainOf 4 (some .int), Cond.methodLink RX0 83 yX0_placeOfPairs, Cond.static yX0_placeOfPairs, Cond.code yX0_placeOfPairs cX0_placeOfPairs 1 (some .int), Cond.methodLink RX11 314 yX4_findMiddles, Cond.instanceMethod yX4_findMiddles, Cond.selects RX4 yX4_findMiddles yX4_findMiddles, Cond.initialized RX4, Cond.code yX4_findMiddles cX4_findMiddles 7 none, Cond.fieldLink RX4 27 "VoiceHeaps$Heaping" "heaps" "I", Cond.fieldLink RX4 9 "VoiceHeaps$Heaping" "heapOf" "[I", Cond.fieldLink RX4 18 "VoiceHeaps$Heaping" "middles" "[I", Cond.methodLink RX4 31 yX3_empty, Cond.methodLink RX4 46 yX3_take, Cond.methodLink RX4 50 yX3_writeMiddle, Cond.methodLink RX11 318 yX1_join, Cond.instanceMethod yX1_join, Cond.selects RX1 yX1_join yX1_join, Cond.code yX1_join cX1_join 4 none, Cond.fieldLink RX1 16 "VoiceHeaps$Bonds" "link" "[[I"]
def wsX11_otherwise_r8 : List Cond := [Cond.methodLink RX1 53 yX1_joinTwo, Cond.instanceMethod yX1_joinTwo, Cond.selects RX1 yX1_joinTwo yX1_joinTwo, Cond.code yX1_joinTwo cX1_joinTwo 7 (some .boolean), Cond.methodLink RX1 57 yX4_numberHeaps, Cond.instanceMethod yX4_numberHeaps, Cond.selects RX4 yX4_numberHeaps yX4_numberHeaps, Cond.code yX4_numberHeaps cX4_numberHeaps 4 none, Cond.fieldLink RX4 15 "VoiceHeaps$Heaping" "renamed" "[I", Cond.methodLink RX4 21 yJ7_fill_53178, Cond.methodLink RX1 60 yX1_worthOf, Cond.instanceMethod yX1_worthOf, Cond.selects RX1 yX1_worthOf yX1_worthOf, Cond.code yX1_worthOf cX1_worthOf 5 (some .int), Cond.methodLink RX11 259 yX11_heapOfRow, Cond.instanceMethod yX11_heapOfRow, Cond.selects RX11 yX11_heapOfRow yX11_heapOfRow, Cond.code yX11_heapOfRow cX11_heapOfRow 3 (some .int), Cond.methodLink RX11 104 yX11_within, Cond.static yX11_within, Cond.code yX11_within cX11_within 3 (some .boolean)]
def wsX11_otherwise : List Cond := .code yX11_otherwise cX11_otherwise 3 (some .int) :: ((wsX11_otherwise_r1 ++ (wsX11_otherwise_r2 ++ (wsX11_otherwise_r3 ++ (wsX11_otherwise_r4 ++ (wsX11_otherwise_r5 ++ (wsX11_otherwise_r6 ++ (wsX11_otherwise_r7 ++ wsX11_otherwise_r8))))))) ++ wsX110 ++ wsX70 ++ wsX20 ++ wsX00 ++ wsX80 ++ wsX30 ++ wsX10 ++ wsX40)
def wsX11_word : List Cond := .code yX11_word cX11_word 3 (some .int) :: ([.fieldLink RX11 68 "VoiceHeaps" "wordBook" "LVoiceHeaps$WordBook;", .methodLink RX11 140 yX11_areRows, .instanceMethod yX11_areRows, .selects RX11 yX11_areRows yX11_areRows, .initialized RX11, .code yX11_areRows cX11_areRows 3 (some .boolean), .fieldLink RX11 19 "VoiceHeaps" "book" "LVoiceHeaps$RowBook;", .methodLink RX11 262 yX10_add, .instanceMethod yX10_add, .selects RX10 yX10_add yX10_add, .initialized RX10, .code yX10_add cX10_add 3 (some .int), .fieldLink RX10 18 "VoiceHeaps$WordBook" "words" "I", .fieldLink RX10 11 "VoiceHeaps$WordBook" "from" "[I", .fieldLink RX10 15 "VoiceHeaps$WordBook" "to" "[I"] ++ wsX110 ++ wsX70 ++ wsX100)
def wsX11_hung_r1 : List Cond := [Cond.fieldLink RX11 68 "VoiceHeaps" "wordBook" "LVoiceHeaps$WordBook;", Cond.fieldLink RX11 33 "VoiceHeaps" "cutting" "LVoiceHeaps$Cutting;", Cond.methodLink RX11 104 yX11_within, Cond.static yX11_within, Cond.initialized RX11, Cond.code yX11_within cX11_within 3 (some .boolean), Cond.methodLink RX11 151 yX11_cutNow, Cond.instanceMethod yX11_cutNow, Cond.selects RX11 yX11_cutNow yX11_cutNow, Cond.code yX11_cutNow cX11_cutNow 1 none, Cond.fieldLink RX11 94 "VoiceHeaps" "cutIsOld" "Z", Cond.fieldLink RX11 19 "VoiceHeaps" "book" "LVoiceHeaps$RowBook;", Cond.fieldLink RX11 26 "VoiceHeaps" "gathering" "LVoiceHeaps$Gathering;", Cond.fieldLink RX11 10 "VoiceHeaps" "ruleText" "LVoiceHeaps$RuleText;", Cond.methodLink RX11 122 yX8_ruleNow, Cond.instanceMethod yX8_ruleNow, Cond.selects RX8 yX8_ruleNow yX8_ruleNow, Cond.initialized RX8, Cond.code yX8_ruleNow cX8_ruleNow 2 (some .int), Cond.fieldLink RX8 13 "VoiceHeaps$RuleText" "now" "[I", Cond.methodLink RX11 302 yX2_cut, Cond.instanceMethod yX2_cut, Cond.selects RX2 yX2_cut yX2_cut, Cond.initialized RX2]
def wsX11_hung_r2 : List Cond := [Cond.code yX2_cut cX2_cut 7 none, Cond.fieldLink RX2 36 "VoiceHeaps$Cutting" "pieces" "I", Cond.fieldLink RX2 40 "VoiceHeaps$Cutting" "stretches" "I", Cond.fieldLink RX2 43 "VoiceHeaps$Cutting" "total" "I", Cond.fieldLink RX2 46 "VoiceHeaps$Cutting" "heardRows" "I", Cond.fieldLink RX2 27 "VoiceHeaps$Cutting" "pieceOf" "[I", Cond.fieldLink RX2 30 "VoiceHeaps$Cutting" "cost" "[I", Cond.methodLink RX2 49 yJ7_fill_53178, Cond.static yJ7_fill_53178, Cond.initialized RJ7, Cond.code yJ7_fill_53178 cJ7_fill_53178 4 none, Cond.methodLink RX2 60 yX7_isHeard, Cond.instanceMethod yX7_isHeard, Cond.selects RX7 yX7_isHeard yX7_isHeard, Cond.initialized RX7, Cond.code yX7_isHeard cX7_isHeard 5 (some .boolean), Cond.fieldLink RX7 15 "VoiceHeaps$RowBook" "isDeaf" "[Z", Cond.fieldLink RX7 19 "VoiceHeaps$RowBook" "isOut" "[Z", Cond.fieldLink RX7 9 "VoiceHeaps$RowBook" "numbers" "[I", Cond.methodLink RX2 64 yX2_findCosts, Cond.instanceMethod yX2_findCosts, Cond.selects RX2 yX2_findCosts yX2_findCosts, Cond.code yX2_findCosts cX2_findCosts 9 none, Cond.constant RX2 77 (1000000000)]
def wsX11_hung_r3 : List Cond := [Cond.fieldLink RX2 33 "VoiceHeaps$Cutting" "most" "[I", Cond.methodLink RX2 72 yX3_empty, Cond.instanceMethod yX3_empty, Cond.selects RX3 yX3_empty yX3_empty, Cond.initialized RX3, Cond.code yX3_empty cX3_empty 1 none, Cond.fieldLink RX3 16 "VoiceHeaps$Gathering" "rows" "I", Cond.fieldLink RX3 20 "VoiceHeaps$Gathering" "spread" "I", Cond.methodLink RX2 78 yX3_take, Cond.instanceMethod yX3_take, Cond.selects RX3 yX3_take yX3_take, Cond.code yX3_take cX3_take 7 none, Cond.fieldLink RX3 11 "VoiceHeaps$Gathering" "sorted" "[[I", Cond.methodLink RX3 29 Lib.Math.max.name, Cond.static Lib.Math.max.name, Cond.initialized "java/lang/Math", Cond.code Lib.Math.max.name Lib.Math.max.code 2 (some .int), Cond.methodLink RX2 68 yX2_addPieces, Cond.instanceMethod yX2_addPieces, Cond.selects RX2 yX2_addPieces yX2_addPieces, Cond.code yX2_addPieces cX2_addPieces 8 none, Cond.methodLink RX2 84 Lib.Math.max.name, Cond.methodLink RX2 90 Lib.Math.min.name, Cond.static Lib.Math.min.name]
def wsX11_hung_r4 : List Cond := [Cond.code Lib.Math.min.name Lib.Math.min.code 2 (some .int), Cond.fieldLink RX2 9 "VoiceHeaps$Cutting" "first" "[I", Cond.fieldLink RX2 15 "VoiceHeaps$Cutting" "size" "[I", Cond.fieldLink RX2 18 "VoiceHeaps$Cutting" "spread" "[I", Cond.fieldLink RX2 24 "VoiceHeaps$Cutting" "stretchOf" "[I", Cond.fieldLink RX2 21 "VoiceHeaps$Cutting" "middles" "[I", Cond.methodLink RX2 93 yX3_writeMiddle, Cond.instanceMethod yX3_writeMiddle, Cond.selects RX3 yX3_writeMiddle yX3_writeMiddle, Cond.code yX3_writeMiddle cX3_writeMiddle 4 none, Cond.methodLink RX11 264 yX10_pieceWithMost, Cond.instanceMethod yX10_pieceWithMost, Cond.selects RX10 yX10_pieceWithMost yX10_pieceWithMost, Cond.initialized RX10, Cond.code yX10_pieceWithMost cX10_pieceWithMost 7 (some .int), Cond.methodLink RX10 27 yX10_sharedRows, Cond.instanceMethod yX10_sharedRows, Cond.selects RX10 yX10_sharedRows yX10_sharedRows, Cond.code yX10_sharedRows cX10_sharedRows 6 (some .int), Cond.fieldLink RX10 11 "VoiceHeaps$WordBook" "from" "[I", Cond.methodLink RX10 34 Lib.Math.max.name, Cond.fieldLink RX10 15 "VoiceHeaps$WordBook" "to" "[I", Cond.methodLink RX10 43 Lib.Math.min.name, Cond.methodLink RX11 268 yX10_piecesWithSome]
def wsX11_hung_r5 : List Cond := [Cond.instanceMethod yX10_piecesWithSome, Cond.selects RX10 yX10_piecesWithSome yX10_piecesWithSome, Cond.code yX10_piecesWithSome cX10_piecesWithSome 5 (some .int)]
def wsX11_hung : List Cond := .code yX11_hung cX11_hung 3 (some .int) :: ((wsX11_hung_r1 ++ (wsX11_hung_r2 ++ (wsX11_hung_r3 ++ (wsX11_hung_r4 ++ wsX11_hung_r5)))) ++ wsX110 ++ wsX100 ++ wsX80 ++ wsX20 ++ wsX70 ++ wsX30)
def wsX11_truth : List Cond := .code yX11_truth cX11_truth 4 (some .int) :: ([.fieldLink RX11 19 "VoiceHeaps" "book" "LVoiceHeaps$RowBook;", .methodLink RX11 140 yX11_areRows, .instanceMethod yX11_areRows, .selects RX11 yX11_areRows yX11_areRows, .initialized RX11, .code yX11_areRows cX11_areRows 3 (some .boolean), .methodLink RX11 104 yX11_within, .static yX11_within, .code yX11_within cX11_within 3 (some .boolean), .methodLink RX11 271 yX7_setTruth, .instanceMethod yX7_setTruth, .selects RX7 yX7_setTruth yX7_setTruth, .initialized RX7, .code yX7_setTruth cX7_setTruth 6 (some .int), .methodLink RX7 33 Lib.Math.max.name, .static Lib.Math.max.name, .initialized "java/lang/Math", .code Lib.Math.max.name Lib.Math.max.code 2 (some .int), .fieldLink RX7 29 "VoiceHeaps$RowBook" "rows" "I", .fieldLink RX7 22 "VoiceHeaps$RowBook" "truthOf" "[I"] ++ wsX110 ++ wsX70)
def wsX11_errors_r1 : List Cond := [Cond.fieldLink RX11 75 "VoiceHeaps" "verdict" "LVoiceHeaps$Verdict;", Cond.fieldLink RX11 19 "VoiceHeaps" "book" "LVoiceHeaps$RowBook;", Cond.fieldLink RX11 33 "VoiceHeaps" "cutting" "LVoiceHeaps$Cutting;", Cond.fieldLink RX11 47 "VoiceHeaps" "all" "LVoiceHeaps$AllHeapings;", Cond.methodLink RX11 104 yX11_within, Cond.static yX11_within, Cond.initialized RX11, Cond.code yX11_within cX11_within 3 (some .boolean), Cond.methodLink RX11 151 yX11_cutNow, Cond.instanceMethod yX11_cutNow, Cond.selects RX11 yX11_cutNow yX11_cutNow, Cond.code yX11_cutNow cX11_cutNow 1 none, Cond.fieldLink RX11 94 "VoiceHeaps" "cutIsOld" "Z", Cond.fieldLink RX11 26 "VoiceHeaps" "gathering" "LVoiceHeaps$Gathering;", Cond.fieldLink RX11 10 "VoiceHeaps" "ruleText" "LVoiceHeaps$RuleText;", Cond.methodLink RX11 122 yX8_ruleNow, Cond.instanceMethod yX8_ruleNow, Cond.selects RX8 yX8_ruleNow yX8_ruleNow, Cond.initialized RX8, Cond.code yX8_ruleNow cX8_ruleNow 2 (some .int), Cond.fieldLink RX8 13 "VoiceHeaps$RuleText" "now" "[I", Cond.methodLink RX11 302 yX2_cut, Cond.instanceMethod yX2_cut, Cond.selects RX2 yX2_cut yX2_cut]
def wsX11_errors_r2 : List Cond := [Cond.initialized RX2, Cond.code yX2_cut cX2_cut 7 none, Cond.fieldLink RX2 36 "VoiceHeaps$Cutting" "pieces" "I", Cond.fieldLink RX2 40 "VoiceHeaps$Cutting" "stretches" "I", Cond.fieldLink RX2 43 "VoiceHeaps$Cutting" "total" "I", Cond.fieldLink RX2 46 "VoiceHeaps$Cutting" "heardRows" "I", Cond.fieldLink RX2 27 "VoiceHeaps$Cutting" "pieceOf" "[I", Cond.fieldLink RX2 30 "VoiceHeaps$Cutting" "cost" "[I", Cond.methodLink RX2 49 yJ7_fill_53178, Cond.static yJ7_fill_53178, Cond.initialized RJ7, Cond.code yJ7_fill_53178 cJ7_fill_53178 4 none, Cond.methodLink RX2 60 yX7_isHeard, Cond.instanceMethod yX7_isHeard, Cond.selects RX7 yX7_isHeard yX7_isHeard, Cond.initialized RX7, Cond.code yX7_isHeard cX7_isHeard 5 (some .boolean), Cond.fieldLink RX7 15 "VoiceHeaps$RowBook" "isDeaf" "[Z", Cond.fieldLink RX7 19 "VoiceHeaps$RowBook" "isOut" "[Z", Cond.fieldLink RX7 9 "VoiceHeaps$RowBook" "numbers" "[I", Cond.methodLink RX2 64 yX2_findCosts, Cond.instanceMethod yX2_findCosts, Cond.selects RX2 yX2_findCosts yX2_findCosts, Cond.code yX2_findCosts cX2_findCosts 9 none]
def wsX11_errors_r3 : List Cond := [Cond.constant RX2 77 (1000000000), Cond.fieldLink RX2 33 "VoiceHeaps$Cutting" "most" "[I", Cond.methodLink RX2 72 yX3_empty, Cond.instanceMethod yX3_empty, Cond.selects RX3 yX3_empty yX3_empty, Cond.initialized RX3, Cond.code yX3_empty cX3_empty 1 none, Cond.fieldLink RX3 16 "VoiceHeaps$Gathering" "rows" "I", Cond.fieldLink RX3 20 "VoiceHeaps$Gathering" "spread" "I", Cond.methodLink RX2 78 yX3_take, Cond.instanceMethod yX3_take, Cond.selects RX3 yX3_take yX3_take, Cond.code yX3_take cX3_take 7 none, Cond.fieldLink RX3 11 "VoiceHeaps$Gathering" "sorted" "[[I", Cond.methodLink RX3 29 Lib.Math.max.name, Cond.static Lib.Math.max.name, Cond.initialized "java/lang/Math", Cond.code Lib.Math.max.name Lib.Math.max.code 2 (some .int), Cond.methodLink RX2 68 yX2_addPieces, Cond.instanceMethod yX2_addPieces, Cond.selects RX2 yX2_addPieces yX2_addPieces, Cond.code yX2_addPieces cX2_addPieces 8 none, Cond.methodLink RX2 84 Lib.Math.max.name, Cond.methodLink RX2 90 Lib.Math.min.name]
def wsX11_errors_r4 : List Cond := [Cond.static Lib.Math.min.name, Cond.code Lib.Math.min.name Lib.Math.min.code 2 (some .int), Cond.fieldLink RX2 9 "VoiceHeaps$Cutting" "first" "[I", Cond.fieldLink RX2 15 "VoiceHeaps$Cutting" "size" "[I", Cond.fieldLink RX2 18 "VoiceHeaps$Cutting" "spread" "[I", Cond.fieldLink RX2 24 "VoiceHeaps$Cutting" "stretchOf" "[I", Cond.fieldLink RX2 21 "VoiceHeaps$Cutting" "middles" "[I", Cond.methodLink RX2 93 yX3_writeMiddle, Cond.instanceMethod yX3_writeMiddle, Cond.selects RX3 yX3_writeMiddle yX3_writeMiddle, Cond.code yX3_writeMiddle cX3_writeMiddle 4 none, Cond.methodLink RX11 274 yX9_missed, Cond.instanceMethod yX9_missed, Cond.selects RX9 yX9_missed yX9_missed, Cond.initialized RX9, Cond.code yX9_missed cX9_missed 5 (some .int), Cond.methodLink RX11 278 yX9_madeUp, Cond.instanceMethod yX9_madeUp, Cond.selects RX9 yX9_madeUp yX9_madeUp, Cond.code yX9_madeUp cX9_madeUp 5 (some .int), Cond.methodLink RX11 190 yX11_heapNow, Cond.instanceMethod yX11_heapNow, Cond.selects RX11 yX11_heapNow yX11_heapNow, Cond.code yX11_heapNow cX11_heapNow 1 (some .boolean)]
def wsX11_errors_r5 : List Cond := [Cond.fieldLink RX11 98 "VoiceHeaps" "heapsAreOld" "Z", Cond.fieldLink RX11 40 "VoiceHeaps" "bonds" "LVoiceHeaps$Bonds;", Cond.fieldLink RX11 54 "VoiceHeaps" "joined" "LVoiceHeaps$Heaping;", Cond.methodLink RX11 306 yX1_tie, Cond.instanceMethod yX1_tie, Cond.selects RX1 yX1_tie yX1_tie, Cond.initialized RX1, Cond.code yX1_tie cX1_tie 7 none, Cond.methodLink RX1 29 Lib.Math.min.name, Cond.fieldLink RX1 35 "VoiceHeaps$Bonds" "pieces" "I", Cond.fieldLink RX1 11 "VoiceHeaps$Bonds" "bond" "[[I", Cond.methodLink RX1 36 yX2_likeness, Cond.instanceMethod yX2_likeness, Cond.selects RX2 yX2_likeness yX2_likeness, Cond.code yX2_likeness cX2_likeness 4 (some .int), Cond.static yX11_off, Cond.code yX11_off cX11_off 6 (some .int), Cond.methodLink RX11 326 Lib.Math.abs.name, Cond.static Lib.Math.abs.name, Cond.code Lib.Math.abs.name Lib.Math.abs.code 1 (some .int), Cond.methodLink RX1 40 yX2_doTouch, Cond.instanceMethod yX2_doTouch, Cond.selects RX2 yX2_doTouch yX2_doTouch, Cond.code yX2_doTouch cX2_doTouch 3 (some .boolean)]
def wsX11_errors_r6 : List Cond := [Cond.methodLink RX2 100 Lib.Math.abs.name, Cond.methodLink RX1 44 yX1_fillGains, Cond.instanceMethod yX1_fillGains, Cond.selects RX1 yX1_fillGains yX1_fillGains, Cond.code yX1_fillGains cX1_fillGains 6 none, Cond.fieldLink RX1 19 "VoiceHeaps$Bonds" "gain" "[I", Cond.methodLink RX11 310 yX0_findBest, Cond.instanceMethod yX0_findBest, Cond.selects RX0 yX0_findBest yX0_findBest, Cond.initialized RX0, Cond.code yX0_findBest cX0_findBest 2 none, Cond.fieldLink RX0 25 "VoiceHeaps$AllHeapings" "isForNear" "Z", Cond.fieldLink RX0 12 "VoiceHeaps$AllHeapings" "best" "LVoiceHeaps$Heaping;", Cond.constant RX0 29 (-1000000000), Cond.fieldLink RX0 22 "VoiceHeaps$AllHeapings" "members" "[I", Cond.methodLink RX0 34 yJ7_fill_53178, Cond.methodLink RX0 40 yX0_deal, Cond.static yX0_deal, Cond.code yX0_deal cX0_deal 9 none, Cond.fieldLink RX0 18 "VoiceHeaps$AllHeapings" "heapOf" "[I", Cond.methodLink RX0 74 Lib.Math.max.name, Cond.methodLink RX0 70 yX0_meet, Cond.instanceMethod yX0_meet, Cond.selects RX0 yX0_meet yX0_meet]
def wsX11_errors_r7 : List Cond := [Cond.code yX0_meet cX0_meet 7 none, Cond.methodLink RX0 87 yX0_meetNear, Cond.instanceMethod yX0_meetNear, Cond.selects RX0 yX0_meetNear yX0_meetNear, Cond.code yX0_meetNear cX0_meetNear 5 none, Cond.fieldLink RX0 44 "VoiceHeaps$AllHeapings" "least" "I", Cond.fieldLink RX0 47 "VoiceHeaps$AllHeapings" "nearOnes" "I", Cond.fieldLink RX0 50 "VoiceHeaps$AllHeapings" "fewest" "I", Cond.methodLink RX0 95 Lib.Math.min.name, Cond.fieldLink RX0 53 "VoiceHeaps$AllHeapings" "most" "I", Cond.fieldLink RX0 58 "VoiceHeaps$AllHeapings" "always" "J", Cond.fieldLink RX0 62 "VoiceHeaps$AllHeapings" "ever" "J", Cond.methodLink RX0 80 yX1_gainOf, Cond.instanceMethod yX1_gainOf, Cond.selects RX1 yX1_gainOf yX1_gainOf, Cond.code yX1_gainOf cX1_gainOf 4 (some .int), Cond.methodLink RX0 83 yX0_placeOfPairs, Cond.static yX0_placeOfPairs, Cond.code yX0_placeOfPairs cX0_placeOfPairs 1 (some .int), Cond.methodLink RX11 314 yX4_findMiddles, Cond.instanceMethod yX4_findMiddles, Cond.selects RX4 yX4_findMiddles yX4_findMiddles, Cond.initialized RX4, Cond.code yX4_findMiddles cX4_findMiddles 7 none]
def wsX11_errors_r8 : List Cond := [Cond.fieldLink RX4 27 "VoiceHeaps$Heaping" "heaps" "I", Cond.fieldLink RX4 9 "VoiceHeaps$Heaping" "heapOf" "[I", Cond.fieldLink RX4 18 "VoiceHeaps$Heaping" "middles" "[I", Cond.methodLink RX4 31 yX3_empty, Cond.methodLink RX4 46 yX3_take, Cond.methodLink RX4 50 yX3_writeMiddle, Cond.methodLink RX11 318 yX1_join, Cond.instanceMethod yX1_join, Cond.selects RX1 yX1_join yX1_join, Cond.code yX1_join cX1_join 4 none, Cond.fieldLink RX1 16 "VoiceHeaps$Bonds" "link" "[[I", Cond.methodLink RX1 53 yX1_joinTwo, Cond.instanceMethod yX1_joinTwo, Cond.selects RX1 yX1_joinTwo yX1_joinTwo, Cond.code yX1_joinTwo cX1_joinTwo 7 (some .boolean), Cond.methodLink RX1 57 yX4_numberHeaps, Cond.instanceMethod yX4_numberHeaps, Cond.selects RX4 yX4_numberHeaps yX4_numberHeaps, Cond.code yX4_numberHeaps cX4_numberHeaps 4 none, Cond.fieldLink RX4 15 "VoiceHeaps$Heaping" "renamed" "[I", Cond.methodLink RX4 21 yJ7_fill_53178, Cond.methodLink RX1 60 yX1_worthOf, Cond.instanceMethod yX1_worthOf, Cond.selects RX1 yX1_worthOf yX1_worthOf]
def wsX11_errors_r9 : List Cond := [Cond.code yX1_worthOf cX1_worthOf 5 (some .int), Cond.methodLink RX11 281 yX9_wrong, Cond.instanceMethod yX9_wrong, Cond.selects RX9 yX9_wrong yX9_wrong, Cond.code yX9_wrong cX9_wrong 7 (some .int), Cond.fieldLink RX9 16 "VoiceHeaps$Verdict" "right" "[I", Cond.fieldLink RX9 13 "VoiceHeaps$Verdict" "together" "[[I", Cond.methodLink RX9 34 yX9_countTogether, Cond.instanceMethod yX9_countTogether, Cond.selects RX9 yX9_countTogether yX9_countTogether, Cond.code yX9_countTogether cX9_countTogether 8 (some .int), Cond.methodLink RX9 38 yJ7_fill_53178, Cond.methodLink RX9 49 yX9_giveOne, Cond.instanceMethod yX9_giveOne, Cond.selects RX9 yX9_giveOne yX9_giveOne, Cond.code yX9_giveOne cX9_giveOne 5 none, Cond.methodLink RX9 53 Lib.Math.max.name]
def wsX11_errors : List Cond := .code yX11_errors cX11_errors 2 (some .int) :: ((wsX11_errors_r1 ++ (wsX11_errors_r2 ++ (wsX11_errors_r3 ++ (wsX11_errors_r4 ++ (wsX11_errors_r5 ++ (wsX11_errors_r6 ++ (wsX11_errors_r7 ++ (wsX11_errors_r8 ++ wsX11_errors_r9)))))))) ++ wsX110 ++ wsX00 ++ wsX80 ++ wsX20 ++ wsX70 ++ wsX30 ++ wsX10 ++ wsX40 ++ wsX90)
def wsX11_weight_r1 : List Cond := [Cond.fieldLink RX11 82 "VoiceHeaps" "kinds" "LVoiceHeaps$Kinds;", Cond.fieldLink RX11 33 "VoiceHeaps" "cutting" "LVoiceHeaps$Cutting;", Cond.fieldLink RX11 61 "VoiceHeaps" "kept" "LVoiceHeaps$KeptVoices;", Cond.methodLink RX11 104 yX11_within, Cond.static yX11_within, Cond.initialized RX11, Cond.code yX11_within cX11_within 3 (some .boolean), Cond.methodLink RX11 166 yX11_isPiece, Cond.instanceMethod yX11_isPiece, Cond.selects RX11 yX11_isPiece yX11_isPiece, Cond.code yX11_isPiece cX11_isPiece 2 (some .boolean), Cond.methodLink RX11 151 yX11_cutNow, Cond.instanceMethod yX11_cutNow, Cond.selects RX11 yX11_cutNow yX11_cutNow, Cond.code yX11_cutNow cX11_cutNow 1 none, Cond.fieldLink RX11 94 "VoiceHeaps" "cutIsOld" "Z", Cond.fieldLink RX11 19 "VoiceHeaps" "book" "LVoiceHeaps$RowBook;", Cond.fieldLink RX11 26 "VoiceHeaps" "gathering" "LVoiceHeaps$Gathering;", Cond.fieldLink RX11 10 "VoiceHeaps" "ruleText" "LVoiceHeaps$RuleText;", Cond.methodLink RX11 122 yX8_ruleNow, Cond.instanceMethod yX8_ruleNow, Cond.selects RX8 yX8_ruleNow yX8_ruleNow, Cond.initialized RX8, Cond.code yX8_ruleNow cX8_ruleNow 2 (some .int)]
def wsX11_weight_r2 : List Cond := [Cond.fieldLink RX8 13 "VoiceHeaps$RuleText" "now" "[I", Cond.methodLink RX11 302 yX2_cut, Cond.instanceMethod yX2_cut, Cond.selects RX2 yX2_cut yX2_cut, Cond.initialized RX2, Cond.code yX2_cut cX2_cut 7 none, Cond.fieldLink RX2 36 "VoiceHeaps$Cutting" "pieces" "I", Cond.fieldLink RX2 40 "VoiceHeaps$Cutting" "stretches" "I", Cond.fieldLink RX2 43 "VoiceHeaps$Cutting" "total" "I", Cond.fieldLink RX2 46 "VoiceHeaps$Cutting" "heardRows" "I", Cond.fieldLink RX2 27 "VoiceHeaps$Cutting" "pieceOf" "[I", Cond.fieldLink RX2 30 "VoiceHeaps$Cutting" "cost" "[I", Cond.methodLink RX2 49 yJ7_fill_53178, Cond.static yJ7_fill_53178, Cond.initialized RJ7, Cond.code yJ7_fill_53178 cJ7_fill_53178 4 none, Cond.methodLink RX2 60 yX7_isHeard, Cond.instanceMethod yX7_isHeard, Cond.selects RX7 yX7_isHeard yX7_isHeard, Cond.initialized RX7, Cond.code yX7_isHeard cX7_isHeard 5 (some .boolean), Cond.fieldLink RX7 15 "VoiceHeaps$RowBook" "isDeaf" "[Z", Cond.fieldLink RX7 19 "VoiceHeaps$RowBook" "isOut" "[Z", Cond.fieldLink RX7 9 "VoiceHeaps$RowBook" "numbers" "[I"]
def wsX11_weight_r3 : List Cond := [Cond.methodLink RX2 64 yX2_findCosts, Cond.instanceMethod yX2_findCosts, Cond.selects RX2 yX2_findCosts yX2_findCosts, Cond.code yX2_findCosts cX2_findCosts 9 none, Cond.constant RX2 77 (1000000000), Cond.fieldLink RX2 33 "VoiceHeaps$Cutting" "most" "[I", Cond.methodLink RX2 72 yX3_empty, Cond.instanceMethod yX3_empty, Cond.selects RX3 yX3_empty yX3_empty, Cond.initialized RX3, Cond.code yX3_empty cX3_empty 1 none, Cond.fieldLink RX3 16 "VoiceHeaps$Gathering" "rows" "I", Cond.fieldLink RX3 20 "VoiceHeaps$Gathering" "spread" "I", Cond.methodLink RX2 78 yX3_take, Cond.instanceMethod yX3_take, Cond.selects RX3 yX3_take yX3_take, Cond.code yX3_take cX3_take 7 none, Cond.fieldLink RX3 11 "VoiceHeaps$Gathering" "sorted" "[[I", Cond.methodLink RX3 29 Lib.Math.max.name, Cond.static Lib.Math.max.name, Cond.initialized "java/lang/Math", Cond.code Lib.Math.max.name Lib.Math.max.code 2 (some .int), Cond.methodLink RX2 68 yX2_addPieces, Cond.instanceMethod yX2_addPieces]
def wsX11_weight_r4 : List Cond := [Cond.selects RX2 yX2_addPieces yX2_addPieces, Cond.code yX2_addPieces cX2_addPieces 8 none, Cond.methodLink RX2 84 Lib.Math.max.name, Cond.methodLink RX2 90 Lib.Math.min.name, Cond.static Lib.Math.min.name, Cond.code Lib.Math.min.name Lib.Math.min.code 2 (some .int), Cond.fieldLink RX2 9 "VoiceHeaps$Cutting" "first" "[I", Cond.fieldLink RX2 15 "VoiceHeaps$Cutting" "size" "[I", Cond.fieldLink RX2 18 "VoiceHeaps$Cutting" "spread" "[I", Cond.fieldLink RX2 24 "VoiceHeaps$Cutting" "stretchOf" "[I", Cond.fieldLink RX2 21 "VoiceHeaps$Cutting" "middles" "[I", Cond.methodLink RX2 93 yX3_writeMiddle, Cond.instanceMethod yX3_writeMiddle, Cond.selects RX3 yX3_writeMiddle yX3_writeMiddle, Cond.code yX3_writeMiddle cX3_writeMiddle 4 none, Cond.methodLink RX11 288 yX6_weigh, Cond.instanceMethod yX6_weigh, Cond.selects RX6 yX6_weigh yX6_weigh, Cond.initialized RX6, Cond.code yX6_weigh cX6_weigh 5 (some .int), Cond.methodLink RX6 7 yX6_span, Cond.instanceMethod yX6_span, Cond.selects RX6 yX6_span yX6_span, Cond.code yX6_span cX6_span 3 (some .int)]
def wsX11_weight_r5 : List Cond := [Cond.fieldLink RX6 35 "VoiceHeaps$Kinds" "asked" "J", Cond.methodLink RX6 13 yX6_voice, Cond.instanceMethod yX6_voice, Cond.selects RX6 yX6_voice yX6_voice, Cond.code yX6_voice cX6_voice 3 (some .int), Cond.constantLong RX6 45 (10), Cond.methodLink RX6 47 yX2_middleOf, Cond.instanceMethod yX2_middleOf, Cond.selects RX2 yX2_middleOf yX2_middleOf, Cond.code yX2_middleOf cX2_middleOf 3 (some .int), Cond.methodLink RX6 16 yX6_talk, Cond.instanceMethod yX6_talk, Cond.selects RX6 yX6_talk yX6_talk, Cond.code yX6_talk cX6_talk 3 (some .int), Cond.constantLong RX6 51 (100), Cond.methodLink RX6 19 yX6_two, Cond.instanceMethod yX6_two, Cond.selects RX6 yX6_two yX6_two, Cond.code yX6_two cX6_two 3 (some .int), Cond.constantLong RX6 56 (1000), Cond.methodLink RX6 22 yX6_brief, Cond.instanceMethod yX6_brief, Cond.selects RX6 yX6_brief yX6_brief, Cond.code yX6_brief cX6_brief 3 (some .int)]
def wsX11_weight_r6 : List Cond := [Cond.constantLong RX6 58 (10000), Cond.methodLink RX6 60 Lib.Math.max.name, Cond.methodLink RX6 25 yX6_far, Cond.instanceMethod yX6_far, Cond.selects RX6 yX6_far yX6_far, Cond.code yX6_far cX6_far 3 (some .int), Cond.constantLong RX6 65 (100000), Cond.methodLink RX6 28 yX6_known, Cond.instanceMethod yX6_known, Cond.selects RX6 yX6_known yX6_known, Cond.code yX6_known cX6_known 4 (some .int), Cond.constantLong RX6 67 (1000000), Cond.methodLink RX6 32 yX6_noise, Cond.instanceMethod yX6_noise, Cond.selects RX6 yX6_noise yX6_noise, Cond.code yX6_noise cX6_noise 4 (some .int), Cond.constantLong RX6 69 (10000000)]
def wsX11_weight : List Cond := .code yX11_weight cX11_weight 3 (some .int) :: ((wsX11_weight_r1 ++ (wsX11_weight_r2 ++ (wsX11_weight_r3 ++ (wsX11_weight_r4 ++ (wsX11_weight_r5 ++ wsX11_weight_r6))))) ++ wsX110 ++ wsX50 ++ wsX20 ++ wsX80 ++ wsX70 ++ wsX30 ++ wsX60)
def wsX11_count : List Cond := .code yX11_count cX11_count 2 (some .int) :: ([.fieldLink RX11 19 "VoiceHeaps" "book" "LVoiceHeaps$RowBook;", .fieldLink RX11 61 "VoiceHeaps" "kept" "LVoiceHeaps$KeptVoices;", .fieldLink RX11 68 "VoiceHeaps" "wordBook" "LVoiceHeaps$WordBook;", .fieldLink RX11 10 "VoiceHeaps" "ruleText" "LVoiceHeaps$RuleText;", .methodLink RX11 292 yX7_deafRows, .instanceMethod yX7_deafRows, .selects RX7 yX7_deafRows yX7_deafRows, .initialized RX7, .code yX7_deafRows cX7_deafRows 3 (some .int), .fieldLink RX7 29 "VoiceHeaps$RowBook" "rows" "I", .fieldLink RX7 15 "VoiceHeaps$RowBook" "isDeaf" "[Z", .methodLink RX11 295 yX7_outRows, .instanceMethod yX7_outRows, .selects RX7 yX7_outRows yX7_outRows, .code yX7_outRows cX7_outRows 3 (some .int), .fieldLink RX7 19 "VoiceHeaps$RowBook" "isOut" "[Z"] ++ wsX110 ++ wsX70 ++ wsX50 ++ wsX100 ++ wsX80)
def wsX11_trace : List Cond := .code yX11_trace cX11_trace 1 (some .long) :: ([.fieldLink RX11 82 "VoiceHeaps" "kinds" "LVoiceHeaps$Kinds;"] ++ wsX110 ++ wsX60)
def wsX12_atFirst : List Cond := .code yX12_atFirst cX12_atFirst 2 none :: ([.fieldLink RX12 7 "VoiceHeapsModel" "rule" "[I"] ++ wsX120)
def wsX12_init_r1 : List Cond := [Cond.methodLink RX12 1 objectInit, Cond.instanceMethod objectInit, Cond.code objectInit ⟨#[0xb1]⟩ 1 none, Cond.arrayClass .int, Cond.fieldLink RX12 7 "VoiceHeapsModel" "rule" "[I", Cond.arrayClass .byte, Cond.fieldLink RX12 13 "VoiceHeapsModel" "text" "[B", Cond.fieldLink RX12 17 "VoiceHeapsModel" "number" "[I", Cond.arrayClass .boolean, Cond.fieldLink RX12 20 "VoiceHeapsModel" "isDeaf" "[Z", Cond.fieldLink RX12 24 "VoiceHeapsModel" "isOut" "[Z", Cond.fieldLink RX12 27 "VoiceHeapsModel" "truth" "[I", Cond.fieldLink RX12 30 "VoiceHeapsModel" "wordFrom" "[I", Cond.fieldLink RX12 33 "VoiceHeapsModel" "wordTo" "[I", Cond.fieldLink RX12 36 "VoiceHeapsModel" "shownHeap" "[I", Cond.fieldLink RX12 39 "VoiceHeapsModel" "first" "[I", Cond.fieldLink RX12 42 "VoiceHeapsModel" "many" "[I", Cond.fieldLink RX12 45 "VoiceHeapsModel" "pieceOf" "[I", Cond.fieldLink RX12 48 "VoiceHeapsModel" "middle" "[I", Cond.fieldLink RX12 51 "VoiceHeapsModel" "spread" "[I", Cond.fieldLink RX12 54 "VoiceHeapsModel" "isAsked" "[Z", Cond.fieldLink RX12 57 "VoiceHeapsModel" "mid" "[I", Cond.fieldLink RX12 60 "VoiceHeapsModel" "line" "[I", Cond.fieldLink RX12 63 "VoiceHeapsModel" "least" "[I"]
def wsX12_init_r2 : List Cond := [Cond.fieldLink RX12 66 "VoiceHeapsModel" "taken" "[I", Cond.fieldLink RX12 69 "VoiceHeapsModel" "heap" "[I", Cond.fieldLink RX12 72 "VoiceHeapsModel" "best" "[I", Cond.fieldLink RX12 75 "VoiceHeapsModel" "joined" "[I", Cond.fieldLink RX12 78 "VoiceHeapsModel" "gain" "[I", Cond.fieldLink RX12 81 "VoiceHeapsModel" "heapMiddle" "[I", Cond.fieldLink RX12 84 "VoiceHeapsModel" "name" "[I", Cond.fieldLink RX12 87 "VoiceHeapsModel" "voice" "[I", Cond.fieldLink RX12 90 "VoiceHeapsModel" "right" "[I", Cond.fieldLink RX12 93 "VoiceHeapsModel" "pairs" "[I", Cond.methodLink RX12 96 yX12_atFirst, Cond.instanceMethod yX12_atFirst, Cond.selects RX12 yX12_atFirst yX12_atFirst, Cond.initialized RX12, Cond.code yX12_atFirst cX12_atFirst 2 none]
def wsX12_init : List Cond := .code yX12_init cX12_init 1 none :: ((wsX12_init_r1 ++ wsX12_init_r2) ++ wsX120)
def wsX12_in : List Cond := .code yX12_in cX12_in 3 (some .boolean) :: ([])
def wsX12_most : List Cond := .code yX12_most cX12_most 1 (some .int) :: ([])
def wsX12_type : List Cond := .code yX12_type cX12_type 5 (some .int) :: ([.fieldLink RX12 104 "VoiceHeapsModel" "typed" "I", .fieldLink RX12 13 "VoiceHeapsModel" "text" "[B", .constantLong RX12 108 (255), .methodLink RX12 100 yX12_in, .static yX12_in, .initialized RX12, .code yX12_in cX12_in 3 (some .boolean)] ++ wsX120)
def wsX12_clear : List Cond := .code yX12_clear cX12_clear 2 (some .int) :: ([.fieldLink RX12 104 "VoiceHeapsModel" "typed" "I"] ++ wsX120)
def wsX12_here : List Cond := .code yX12_here cX12_here 1 (some .int) :: ([.fieldLink RX12 110 "VoiceHeapsModel" "at" "I", .fieldLink RX12 104 "VoiceHeapsModel" "typed" "I", .fieldLink RX12 13 "VoiceHeapsModel" "text" "[B"] ++ wsX120)
def wsX12_more : List Cond := .code yX12_more cX12_more 3 (some .long) :: ([.constantLong RX12 113 (27), .constantLong RX12 115 (97)])
def wsX12_code : List Cond := .code yX12_code cX12_code 5 (some .long) :: ([.methodLink RX12 117 yX12_more, .static yX12_more, .initialized RX12, .code yX12_more cX12_more 3 (some .long), .constantLong RX12 113 (27), .constantLong RX12 115 (97)])
def wsX12_wordOf : List Cond := .code yX12_wordOf cX12_wordOf 6 (some .int) :: ([.fieldLink RX12 13 "VoiceHeapsModel" "text" "[B", .methodLink RX12 117 yX12_more, .static yX12_more, .initialized RX12, .code yX12_more cX12_more 3 (some .long), .constantLong RX12 113 (27), .constantLong RX12 115 (97), .methodLink RX12 121 yX12_code, .static yX12_code, .code yX12_code cX12_code 5 (some .long)] ++ wsX120)
def wsX12_next_r1 : List Cond := [Cond.fieldLink RX12 110 "VoiceHeapsModel" "at" "I", Cond.fieldLink RX12 129 "VoiceHeapsModel" "start" "I", Cond.fieldLink RX12 132 "VoiceHeapsModel" "value" "I", Cond.fieldLink RX12 135 "VoiceHeapsModel" "sort" "I", Cond.methodLink RX12 125 yX12_here, Cond.instanceMethod yX12_here, Cond.selects RX12 yX12_here yX12_here, Cond.initialized RX12, Cond.code yX12_here cX12_here 1 (some .int), Cond.fieldLink RX12 104 "VoiceHeapsModel" "typed" "I", Cond.fieldLink RX12 13 "VoiceHeapsModel" "text" "[B", Cond.methodLink RX12 100 yX12_in, Cond.static yX12_in, Cond.code yX12_in cX12_in 3 (some .boolean), Cond.methodLink RX12 138 yX12_wordOf, Cond.instanceMethod yX12_wordOf, Cond.selects RX12 yX12_wordOf yX12_wordOf, Cond.code yX12_wordOf cX12_wordOf 6 (some .int), Cond.methodLink RX12 117 yX12_more, Cond.static yX12_more, Cond.code yX12_more cX12_more 3 (some .long), Cond.constantLong RX12 113 (27), Cond.constantLong RX12 115 (97), Cond.methodLink RX12 121 yX12_code]
def wsX12_next_r2 : List Cond := [Cond.static yX12_code, Cond.code yX12_code cX12_code 5 (some .long)]
def wsX12_next : List Cond := .code yX12_next cX12_next 2 none :: ((wsX12_next_r1 ++ wsX12_next_r2) ++ wsX120)
def wsX12_due_r1 : List Cond := [Cond.fieldLink RX12 132 "VoiceHeapsModel" "value" "I", Cond.fieldLink RX12 142 "VoiceHeapsModel" "fault" "I", Cond.fieldLink RX12 129 "VoiceHeapsModel" "start" "I", Cond.methodLink RX12 145 yX12_next, Cond.instanceMethod yX12_next, Cond.selects RX12 yX12_next yX12_next, Cond.initialized RX12, Cond.code yX12_next cX12_next 2 none, Cond.fieldLink RX12 110 "VoiceHeapsModel" "at" "I", Cond.fieldLink RX12 135 "VoiceHeapsModel" "sort" "I", Cond.methodLink RX12 125 yX12_here, Cond.instanceMethod yX12_here, Cond.selects RX12 yX12_here yX12_here, Cond.code yX12_here cX12_here 1 (some .int), Cond.fieldLink RX12 104 "VoiceHeapsModel" "typed" "I", Cond.fieldLink RX12 13 "VoiceHeapsModel" "text" "[B", Cond.methodLink RX12 100 yX12_in, Cond.static yX12_in, Cond.code yX12_in cX12_in 3 (some .boolean), Cond.methodLink RX12 138 yX12_wordOf, Cond.instanceMethod yX12_wordOf, Cond.selects RX12 yX12_wordOf yX12_wordOf, Cond.code yX12_wordOf cX12_wordOf 6 (some .int), Cond.methodLink RX12 117 yX12_more]
def wsX12_due_r2 : List Cond := [Cond.static yX12_more, Cond.code yX12_more cX12_more 3 (some .long), Cond.constantLong RX12 113 (27), Cond.constantLong RX12 115 (97), Cond.methodLink RX12 121 yX12_code, Cond.static yX12_code, Cond.code yX12_code cX12_code 5 (some .long)]
def wsX12_due : List Cond := .code yX12_due cX12_due 3 (some .int) :: ((wsX12_due_r1 ++ wsX12_due_r2) ++ wsX120)
def wsX12_rules_r1 : List Cond := [Cond.fieldLink RX12 110 "VoiceHeapsModel" "at" "I", Cond.fieldLink RX12 142 "VoiceHeapsModel" "fault" "I", Cond.fieldLink RX12 135 "VoiceHeapsModel" "sort" "I", Cond.fieldLink RX12 132 "VoiceHeapsModel" "value" "I", Cond.fieldLink RX12 7 "VoiceHeapsModel" "rule" "[I", Cond.fieldLink RX12 104 "VoiceHeapsModel" "typed" "I", Cond.methodLink RX12 96 yX12_atFirst, Cond.instanceMethod yX12_atFirst, Cond.selects RX12 yX12_atFirst yX12_atFirst, Cond.initialized RX12, Cond.code yX12_atFirst cX12_atFirst 2 none, Cond.methodLink RX12 145 yX12_next, Cond.instanceMethod yX12_next, Cond.selects RX12 yX12_next yX12_next, Cond.code yX12_next cX12_next 2 none, Cond.fieldLink RX12 129 "VoiceHeapsModel" "start" "I", Cond.methodLink RX12 125 yX12_here, Cond.instanceMethod yX12_here, Cond.selects RX12 yX12_here yX12_here, Cond.code yX12_here cX12_here 1 (some .int), Cond.fieldLink RX12 13 "VoiceHeapsModel" "text" "[B", Cond.methodLink RX12 100 yX12_in, Cond.static yX12_in, Cond.code yX12_in cX12_in 3 (some .boolean)]
def wsX12_rules_r2 : List Cond := [Cond.methodLink RX12 138 yX12_wordOf, Cond.instanceMethod yX12_wordOf, Cond.selects RX12 yX12_wordOf yX12_wordOf, Cond.code yX12_wordOf cX12_wordOf 6 (some .int), Cond.methodLink RX12 117 yX12_more, Cond.static yX12_more, Cond.code yX12_more cX12_more 3 (some .long), Cond.constantLong RX12 113 (27), Cond.constantLong RX12 115 (97), Cond.methodLink RX12 121 yX12_code, Cond.static yX12_code, Cond.code yX12_code cX12_code 5 (some .long), Cond.methodLink RX12 148 yX12_due, Cond.instanceMethod yX12_due, Cond.selects RX12 yX12_due yX12_due, Cond.code yX12_due cX12_due 3 (some .int), Cond.methodLink RX12 152 yX12_most, Cond.static yX12_most, Cond.code yX12_most cX12_most 1 (some .int)]
def wsX12_rules : List Cond := .code yX12_rules cX12_rules 5 (some .int) :: ((wsX12_rules_r1 ++ wsX12_rules_r2) ++ wsX120)
def wsX12_rule : List Cond := .code yX12_rule cX12_rule 2 (some .int) :: ([.fieldLink RX12 7 "VoiceHeapsModel" "rule" "[I", .methodLink RX12 100 yX12_in, .static yX12_in, .initialized RX12, .code yX12_in cX12_in 3 (some .boolean)] ++ wsX120)
def wsX12_addRow : List Cond := .code yX12_addRow cX12_addRow 6 none :: ([.fieldLink RX12 17 "VoiceHeapsModel" "number" "[I", .fieldLink RX12 156 "VoiceHeapsModel" "rows" "I", .fieldLink RX12 20 "VoiceHeapsModel" "isDeaf" "[Z", .fieldLink RX12 24 "VoiceHeapsModel" "isOut" "[Z", .fieldLink RX12 27 "VoiceHeapsModel" "truth" "[I"] ++ wsX120)
def wsX12_row : List Cond := .code yX12_row cX12_row 5 (some .int) :: ([.fieldLink RX12 156 "VoiceHeapsModel" "rows" "I", .methodLink RX12 100 yX12_in, .static yX12_in, .initialized RX12, .code yX12_in cX12_in 3 (some .boolean), .methodLink RX12 159 yX12_addRow, .instanceMethod yX12_addRow, .selects RX12 yX12_addRow yX12_addRow, .code yX12_addRow cX12_addRow 6 none, .fieldLink RX12 17 "VoiceHeapsModel" "number" "[I", .fieldLink RX12 20 "VoiceHeapsModel" "isDeaf" "[Z", .fieldLink RX12 24 "VoiceHeapsModel" "isOut" "[Z", .fieldLink RX12 27 "VoiceHeapsModel" "truth" "[I"] ++ wsX120)
def wsX12_deaf : List Cond := .code yX12_deaf cX12_deaf 3 (some .int) :: ([.fieldLink RX12 156 "VoiceHeapsModel" "rows" "I", .methodLink RX12 100 yX12_in, .static yX12_in, .initialized RX12, .code yX12_in cX12_in 3 (some .boolean), .methodLink RX12 159 yX12_addRow, .instanceMethod yX12_addRow, .selects RX12 yX12_addRow yX12_addRow, .code yX12_addRow cX12_addRow 6 none, .fieldLink RX12 17 "VoiceHeapsModel" "number" "[I", .fieldLink RX12 20 "VoiceHeapsModel" "isDeaf" "[Z", .fieldLink RX12 24 "VoiceHeapsModel" "isOut" "[Z", .fieldLink RX12 27 "VoiceHeapsModel" "truth" "[I"] ++ wsX120)
def wsX12_isRow : List Cond := .code yX12_isRow cX12_isRow 2 (some .boolean) :: ([.fieldLink RX12 156 "VoiceHeapsModel" "rows" "I", .methodLink RX12 100 yX12_in, .static yX12_in, .initialized RX12, .code yX12_in cX12_in 3 (some .boolean)] ++ wsX120)
def wsX12_areRows : List Cond := .code yX12_areRows cX12_areRows 3 (some .boolean) :: ([.fieldLink RX12 156 "VoiceHeapsModel" "rows" "I", .methodLink RX12 163 yX12_isRow, .instanceMethod yX12_isRow, .selects RX12 yX12_isRow yX12_isRow, .initialized RX12, .code yX12_isRow cX12_isRow 2 (some .boolean), .methodLink RX12 100 yX12_in, .static yX12_in, .code yX12_in cX12_in 3 (some .boolean)] ++ wsX120)
def wsX12_out : List Cond := .code yX12_out cX12_out 6 (some .int) :: ([.fieldLink RX12 24 "VoiceHeapsModel" "isOut" "[Z", .methodLink RX12 167 yX12_areRows, .instanceMethod yX12_areRows, .selects RX12 yX12_areRows yX12_areRows, .initialized RX12, .code yX12_areRows cX12_areRows 3 (some .boolean), .fieldLink RX12 156 "VoiceHeapsModel" "rows" "I", .methodLink RX12 163 yX12_isRow, .instanceMethod yX12_isRow, .selects RX12 yX12_isRow yX12_isRow, .code yX12_isRow cX12_isRow 2 (some .boolean), .methodLink RX12 100 yX12_in, .static yX12_in, .code yX12_in cX12_in 3 (some .boolean)] ++ wsX120)
def wsX12_hush : List Cond := .code yX12_hush cX12_hush 2 (some .int) :: ([.fieldLink RX12 156 "VoiceHeapsModel" "rows" "I", .fieldLink RX12 171 "VoiceHeapsModel" "words" "I", .fieldLink RX12 174 "VoiceHeapsModel" "isShown" "Z"] ++ wsX120)
def wsX12_isHeard : List Cond := .code yX12_isHeard cX12_isHeard 3 (some .boolean) :: ([.fieldLink RX12 17 "VoiceHeapsModel" "number" "[I", .fieldLink RX12 20 "VoiceHeapsModel" "isDeaf" "[Z", .fieldLink RX12 24 "VoiceHeapsModel" "isOut" "[Z", .fieldLink RX12 7 "VoiceHeapsModel" "rule" "[I"] ++ wsX120)
def wsX12_findMiddle : List Cond := .code yX12_findMiddle cX12_findMiddle 6 none :: ([.fieldLink RX12 178 "VoiceHeapsModel" "apart" "I", .fieldLink RX12 156 "VoiceHeapsModel" "rows" "I", .fieldLink RX12 54 "VoiceHeapsModel" "isAsked" "[Z", .fieldLink RX12 17 "VoiceHeapsModel" "number" "[I", .fieldLink RX12 60 "VoiceHeapsModel" "line" "[I", .fieldLink RX12 57 "VoiceHeapsModel" "mid" "[I"] ++ wsX120)
def wsX12_askRows : List Cond := .code yX12_askRows cX12_askRows 4 none :: ([.fieldLink RX12 156 "VoiceHeapsModel" "rows" "I", .fieldLink RX12 54 "VoiceHeapsModel" "isAsked" "[Z", .methodLink RX12 100 yX12_in, .static yX12_in, .initialized RX12, .code yX12_in cX12_in 3 (some .boolean), .methodLink RX12 181 yX12_findMiddle, .instanceMethod yX12_findMiddle, .selects RX12 yX12_findMiddle yX12_findMiddle, .code yX12_findMiddle cX12_findMiddle 6 none, .fieldLink RX12 178 "VoiceHeapsModel" "apart" "I", .fieldLink RX12 17 "VoiceHeapsModel" "number" "[I", .fieldLink RX12 60 "VoiceHeapsModel" "line" "[I", .fieldLink RX12 57 "VoiceHeapsModel" "mid" "[I"] ++ wsX120)
def wsX12_cut_r1 : List Cond := [Cond.fieldLink RX12 63 "VoiceHeapsModel" "least" "[I", Cond.fieldLink RX12 66 "VoiceHeapsModel" "taken" "[I", Cond.fieldLink RX12 178 "VoiceHeapsModel" "apart" "I", Cond.fieldLink RX12 7 "VoiceHeapsModel" "rule" "[I", Cond.fieldLink RX12 188 "VoiceHeapsModel" "price" "I", Cond.fieldLink RX12 39 "VoiceHeapsModel" "first" "[I", Cond.fieldLink RX12 191 "VoiceHeapsModel" "pieces" "I", Cond.fieldLink RX12 42 "VoiceHeapsModel" "many" "[I", Cond.fieldLink RX12 51 "VoiceHeapsModel" "spread" "[I", Cond.fieldLink RX12 48 "VoiceHeapsModel" "middle" "[I", Cond.fieldLink RX12 57 "VoiceHeapsModel" "mid" "[I", Cond.fieldLink RX12 45 "VoiceHeapsModel" "pieceOf" "[I", Cond.methodLink RX12 184 yX12_askRows, Cond.instanceMethod yX12_askRows, Cond.selects RX12 yX12_askRows yX12_askRows, Cond.initialized RX12, Cond.code yX12_askRows cX12_askRows 4 none, Cond.fieldLink RX12 156 "VoiceHeapsModel" "rows" "I", Cond.fieldLink RX12 54 "VoiceHeapsModel" "isAsked" "[Z", Cond.methodLink RX12 100 yX12_in, Cond.static yX12_in, Cond.code yX12_in cX12_in 3 (some .boolean), Cond.methodLink RX12 181 yX12_findMiddle, Cond.instanceMethod yX12_findMiddle]
def wsX12_cut_r2 : List Cond := [Cond.selects RX12 yX12_findMiddle yX12_findMiddle, Cond.code yX12_findMiddle cX12_findMiddle 6 none, Cond.fieldLink RX12 17 "VoiceHeapsModel" "number" "[I", Cond.fieldLink RX12 60 "VoiceHeapsModel" "line" "[I"]
def wsX12_cut : List Cond := .code yX12_cut cX12_cut 6 none :: ((wsX12_cut_r1 ++ wsX12_cut_r2) ++ wsX120)
def wsX12_findPieces_r1 : List Cond := [Cond.fieldLink RX12 191 "VoiceHeapsModel" "pieces" "I", Cond.fieldLink RX12 194 "VoiceHeapsModel" "stretches" "I", Cond.fieldLink RX12 188 "VoiceHeapsModel" "price" "I", Cond.fieldLink RX12 156 "VoiceHeapsModel" "rows" "I", Cond.fieldLink RX12 45 "VoiceHeapsModel" "pieceOf" "[I", Cond.methodLink RX12 197 yX12_isHeard, Cond.instanceMethod yX12_isHeard, Cond.selects RX12 yX12_isHeard yX12_isHeard, Cond.initialized RX12, Cond.code yX12_isHeard cX12_isHeard 3 (some .boolean), Cond.fieldLink RX12 17 "VoiceHeapsModel" "number" "[I", Cond.fieldLink RX12 20 "VoiceHeapsModel" "isDeaf" "[Z", Cond.fieldLink RX12 24 "VoiceHeapsModel" "isOut" "[Z", Cond.fieldLink RX12 7 "VoiceHeapsModel" "rule" "[I", Cond.methodLink RX12 200 yX12_cut, Cond.instanceMethod yX12_cut, Cond.selects RX12 yX12_cut yX12_cut, Cond.code yX12_cut cX12_cut 6 none, Cond.fieldLink RX12 63 "VoiceHeapsModel" "least" "[I", Cond.fieldLink RX12 66 "VoiceHeapsModel" "taken" "[I", Cond.fieldLink RX12 178 "VoiceHeapsModel" "apart" "I", Cond.fieldLink RX12 39 "VoiceHeapsModel" "first" "[I", Cond.fieldLink RX12 42 "VoiceHeapsModel" "many" "[I", Cond.fieldLink RX12 51 "VoiceHeapsModel" "spread" "[I"]
def wsX12_findPieces_r2 : List Cond := [Cond.fieldLink RX12 48 "VoiceHeapsModel" "middle" "[I", Cond.fieldLink RX12 57 "VoiceHeapsModel" "mid" "[I", Cond.methodLink RX12 184 yX12_askRows, Cond.instanceMethod yX12_askRows, Cond.selects RX12 yX12_askRows yX12_askRows, Cond.code yX12_askRows cX12_askRows 4 none, Cond.fieldLink RX12 54 "VoiceHeapsModel" "isAsked" "[Z", Cond.methodLink RX12 100 yX12_in, Cond.static yX12_in, Cond.code yX12_in cX12_in 3 (some .boolean), Cond.methodLink RX12 181 yX12_findMiddle, Cond.instanceMethod yX12_findMiddle, Cond.selects RX12 yX12_findMiddle yX12_findMiddle, Cond.code yX12_findMiddle cX12_findMiddle 6 none, Cond.fieldLink RX12 60 "VoiceHeapsModel" "line" "[I"]
def wsX12_findPieces : List Cond := .code yX12_findPieces cX12_findPieces 3 none :: ((wsX12_findPieces_r1 ++ wsX12_findPieces_r2) ++ wsX120)
def wsX12_pieces_r1 : List Cond := [Cond.fieldLink RX12 156 "VoiceHeapsModel" "rows" "I", Cond.fieldLink RX12 191 "VoiceHeapsModel" "pieces" "I", Cond.fieldLink RX12 194 "VoiceHeapsModel" "stretches" "I", Cond.fieldLink RX12 188 "VoiceHeapsModel" "price" "I", Cond.methodLink RX12 100 yX12_in, Cond.static yX12_in, Cond.initialized RX12, Cond.code yX12_in cX12_in 3 (some .boolean), Cond.methodLink RX12 203 yX12_findPieces, Cond.instanceMethod yX12_findPieces, Cond.selects RX12 yX12_findPieces yX12_findPieces, Cond.code yX12_findPieces cX12_findPieces 3 none, Cond.fieldLink RX12 45 "VoiceHeapsModel" "pieceOf" "[I", Cond.methodLink RX12 197 yX12_isHeard, Cond.instanceMethod yX12_isHeard, Cond.selects RX12 yX12_isHeard yX12_isHeard, Cond.code yX12_isHeard cX12_isHeard 3 (some .boolean), Cond.fieldLink RX12 17 "VoiceHeapsModel" "number" "[I", Cond.fieldLink RX12 20 "VoiceHeapsModel" "isDeaf" "[Z", Cond.fieldLink RX12 24 "VoiceHeapsModel" "isOut" "[Z", Cond.fieldLink RX12 7 "VoiceHeapsModel" "rule" "[I", Cond.methodLink RX12 200 yX12_cut, Cond.instanceMethod yX12_cut, Cond.selects RX12 yX12_cut yX12_cut]
def wsX12_pieces_r2 : List Cond := [Cond.code yX12_cut cX12_cut 6 none, Cond.fieldLink RX12 63 "VoiceHeapsModel" "least" "[I", Cond.fieldLink RX12 66 "VoiceHeapsModel" "taken" "[I", Cond.fieldLink RX12 178 "VoiceHeapsModel" "apart" "I", Cond.fieldLink RX12 39 "VoiceHeapsModel" "first" "[I", Cond.fieldLink RX12 42 "VoiceHeapsModel" "many" "[I", Cond.fieldLink RX12 51 "VoiceHeapsModel" "spread" "[I", Cond.fieldLink RX12 48 "VoiceHeapsModel" "middle" "[I", Cond.fieldLink RX12 57 "VoiceHeapsModel" "mid" "[I", Cond.methodLink RX12 184 yX12_askRows, Cond.instanceMethod yX12_askRows, Cond.selects RX12 yX12_askRows yX12_askRows, Cond.code yX12_askRows cX12_askRows 4 none, Cond.fieldLink RX12 54 "VoiceHeapsModel" "isAsked" "[Z", Cond.methodLink RX12 181 yX12_findMiddle, Cond.instanceMethod yX12_findMiddle, Cond.selects RX12 yX12_findMiddle yX12_findMiddle, Cond.code yX12_findMiddle cX12_findMiddle 6 none, Cond.fieldLink RX12 60 "VoiceHeapsModel" "line" "[I"]
def wsX12_pieces : List Cond := .code yX12_pieces cX12_pieces 4 (some .int) :: ((wsX12_pieces_r1 ++ wsX12_pieces_r2) ++ wsX120)
def wsX12_isPiece : List Cond := .code yX12_isPiece cX12_isPiece 2 (some .boolean) :: ([.fieldLink RX12 191 "VoiceHeapsModel" "pieces" "I", .methodLink RX12 100 yX12_in, .static yX12_in, .initialized RX12, .code yX12_in cX12_in 3 (some .boolean)] ++ wsX120)
def wsX12_piece_r1 : List Cond := [Cond.fieldLink RX12 39 "VoiceHeapsModel" "first" "[I", Cond.fieldLink RX12 42 "VoiceHeapsModel" "many" "[I", Cond.fieldLink RX12 51 "VoiceHeapsModel" "spread" "[I", Cond.fieldLink RX12 48 "VoiceHeapsModel" "middle" "[I", Cond.methodLink RX12 203 yX12_findPieces, Cond.instanceMethod yX12_findPieces, Cond.selects RX12 yX12_findPieces yX12_findPieces, Cond.initialized RX12, Cond.code yX12_findPieces cX12_findPieces 3 none, Cond.fieldLink RX12 191 "VoiceHeapsModel" "pieces" "I", Cond.fieldLink RX12 194 "VoiceHeapsModel" "stretches" "I", Cond.fieldLink RX12 188 "VoiceHeapsModel" "price" "I", Cond.fieldLink RX12 156 "VoiceHeapsModel" "rows" "I", Cond.fieldLink RX12 45 "VoiceHeapsModel" "pieceOf" "[I", Cond.methodLink RX12 197 yX12_isHeard, Cond.instanceMethod yX12_isHeard, Cond.selects RX12 yX12_isHeard yX12_isHeard, Cond.code yX12_isHeard cX12_isHeard 3 (some .boolean), Cond.fieldLink RX12 17 "VoiceHeapsModel" "number" "[I", Cond.fieldLink RX12 20 "VoiceHeapsModel" "isDeaf" "[Z", Cond.fieldLink RX12 24 "VoiceHeapsModel" "isOut" "[Z", Cond.fieldLink RX12 7 "VoiceHeapsModel" "rule" "[I", Cond.methodLink RX12 200 yX12_cut, Cond.instanceMethod yX12_cut]
def wsX12_piece_r2 : List Cond := [Cond.selects RX12 yX12_cut yX12_cut, Cond.code yX12_cut cX12_cut 6 none, Cond.fieldLink RX12 63 "VoiceHeapsModel" "least" "[I", Cond.fieldLink RX12 66 "VoiceHeapsModel" "taken" "[I", Cond.fieldLink RX12 178 "VoiceHeapsModel" "apart" "I", Cond.fieldLink RX12 57 "VoiceHeapsModel" "mid" "[I", Cond.methodLink RX12 184 yX12_askRows, Cond.instanceMethod yX12_askRows, Cond.selects RX12 yX12_askRows yX12_askRows, Cond.code yX12_askRows cX12_askRows 4 none, Cond.fieldLink RX12 54 "VoiceHeapsModel" "isAsked" "[Z", Cond.methodLink RX12 100 yX12_in, Cond.static yX12_in, Cond.code yX12_in cX12_in 3 (some .boolean), Cond.methodLink RX12 181 yX12_findMiddle, Cond.instanceMethod yX12_findMiddle, Cond.selects RX12 yX12_findMiddle yX12_findMiddle, Cond.code yX12_findMiddle cX12_findMiddle 6 none, Cond.fieldLink RX12 60 "VoiceHeapsModel" "line" "[I", Cond.methodLink RX12 206 yX12_isPiece, Cond.instanceMethod yX12_isPiece, Cond.selects RX12 yX12_isPiece yX12_isPiece, Cond.code yX12_isPiece cX12_isPiece 2 (some .boolean)]
def wsX12_piece : List Cond := .code yX12_piece cX12_piece 3 (some .int) :: ((wsX12_piece_r1 ++ wsX12_piece_r2) ++ wsX120)
def wsX12_of_r1 : List Cond := [Cond.fieldLink RX12 45 "VoiceHeapsModel" "pieceOf" "[I", Cond.methodLink RX12 163 yX12_isRow, Cond.instanceMethod yX12_isRow, Cond.selects RX12 yX12_isRow yX12_isRow, Cond.initialized RX12, Cond.code yX12_isRow cX12_isRow 2 (some .boolean), Cond.fieldLink RX12 156 "VoiceHeapsModel" "rows" "I", Cond.methodLink RX12 100 yX12_in, Cond.static yX12_in, Cond.code yX12_in cX12_in 3 (some .boolean), Cond.methodLink RX12 203 yX12_findPieces, Cond.instanceMethod yX12_findPieces, Cond.selects RX12 yX12_findPieces yX12_findPieces, Cond.code yX12_findPieces cX12_findPieces 3 none, Cond.fieldLink RX12 191 "VoiceHeapsModel" "pieces" "I", Cond.fieldLink RX12 194 "VoiceHeapsModel" "stretches" "I", Cond.fieldLink RX12 188 "VoiceHeapsModel" "price" "I", Cond.methodLink RX12 197 yX12_isHeard, Cond.instanceMethod yX12_isHeard, Cond.selects RX12 yX12_isHeard yX12_isHeard, Cond.code yX12_isHeard cX12_isHeard 3 (some .boolean), Cond.fieldLink RX12 17 "VoiceHeapsModel" "number" "[I", Cond.fieldLink RX12 20 "VoiceHeapsModel" "isDeaf" "[Z", Cond.fieldLink RX12 24 "VoiceHeapsModel" "isOut" "[Z"]
def wsX12_of_r2 : List Cond := [Cond.fieldLink RX12 7 "VoiceHeapsModel" "rule" "[I", Cond.methodLink RX12 200 yX12_cut, Cond.instanceMethod yX12_cut, Cond.selects RX12 yX12_cut yX12_cut, Cond.code yX12_cut cX12_cut 6 none, Cond.fieldLink RX12 63 "VoiceHeapsModel" "least" "[I", Cond.fieldLink RX12 66 "VoiceHeapsModel" "taken" "[I", Cond.fieldLink RX12 178 "VoiceHeapsModel" "apart" "I", Cond.fieldLink RX12 39 "VoiceHeapsModel" "first" "[I", Cond.fieldLink RX12 42 "VoiceHeapsModel" "many" "[I", Cond.fieldLink RX12 51 "VoiceHeapsModel" "spread" "[I", Cond.fieldLink RX12 48 "VoiceHeapsModel" "middle" "[I", Cond.fieldLink RX12 57 "VoiceHeapsModel" "mid" "[I", Cond.methodLink RX12 184 yX12_askRows, Cond.instanceMethod yX12_askRows, Cond.selects RX12 yX12_askRows yX12_askRows, Cond.code yX12_askRows cX12_askRows 4 none, Cond.fieldLink RX12 54 "VoiceHeapsModel" "isAsked" "[Z", Cond.methodLink RX12 181 yX12_findMiddle, Cond.instanceMethod yX12_findMiddle, Cond.selects RX12 yX12_findMiddle yX12_findMiddle, Cond.code yX12_findMiddle cX12_findMiddle 6 none, Cond.fieldLink RX12 60 "VoiceHeapsModel" "line" "[I"]
def wsX12_of : List Cond := .code yX12_of cX12_of 2 (some .int) :: ((wsX12_of_r1 ++ wsX12_of_r2) ++ wsX120)
def wsX12_size : List Cond := .code yX12_size cX12_size 1 (some .int) :: ([])
def wsX12_likeOf : List Cond := .code yX12_likeOf cX12_likeOf 5 (some .int) :: ([.fieldLink RX12 48 "VoiceHeapsModel" "middle" "[I", .fieldLink RX12 7 "VoiceHeapsModel" "rule" "[I", .fieldLink RX12 42 "VoiceHeapsModel" "many" "[I", .methodLink RX12 209 yX12_size, .static yX12_size, .initialized RX12, .code yX12_size cX12_size 1 (some .int)] ++ wsX120)
def wsX12_like_r1 : List Cond := [Cond.constant RX12 215 (-1000000), Cond.methodLink RX12 203 yX12_findPieces, Cond.instanceMethod yX12_findPieces, Cond.selects RX12 yX12_findPieces yX12_findPieces, Cond.initialized RX12, Cond.code yX12_findPieces cX12_findPieces 3 none, Cond.fieldLink RX12 191 "VoiceHeapsModel" "pieces" "I", Cond.fieldLink RX12 194 "VoiceHeapsModel" "stretches" "I", Cond.fieldLink RX12 188 "VoiceHeapsModel" "price" "I", Cond.fieldLink RX12 156 "VoiceHeapsModel" "rows" "I", Cond.fieldLink RX12 45 "VoiceHeapsModel" "pieceOf" "[I", Cond.methodLink RX12 197 yX12_isHeard, Cond.instanceMethod yX12_isHeard, Cond.selects RX12 yX12_isHeard yX12_isHeard, Cond.code yX12_isHeard cX12_isHeard 3 (some .boolean), Cond.fieldLink RX12 17 "VoiceHeapsModel" "number" "[I", Cond.fieldLink RX12 20 "VoiceHeapsModel" "isDeaf" "[Z", Cond.fieldLink RX12 24 "VoiceHeapsModel" "isOut" "[Z", Cond.fieldLink RX12 7 "VoiceHeapsModel" "rule" "[I", Cond.methodLink RX12 200 yX12_cut, Cond.instanceMethod yX12_cut, Cond.selects RX12 yX12_cut yX12_cut, Cond.code yX12_cut cX12_cut 6 none, Cond.fieldLink RX12 63 "VoiceHeapsModel" "least" "[I"]
def wsX12_like_r2 : List Cond := [Cond.fieldLink RX12 66 "VoiceHeapsModel" "taken" "[I", Cond.fieldLink RX12 178 "VoiceHeapsModel" "apart" "I", Cond.fieldLink RX12 39 "VoiceHeapsModel" "first" "[I", Cond.fieldLink RX12 42 "VoiceHeapsModel" "many" "[I", Cond.fieldLink RX12 51 "VoiceHeapsModel" "spread" "[I", Cond.fieldLink RX12 48 "VoiceHeapsModel" "middle" "[I", Cond.fieldLink RX12 57 "VoiceHeapsModel" "mid" "[I", Cond.methodLink RX12 184 yX12_askRows, Cond.instanceMethod yX12_askRows, Cond.selects RX12 yX12_askRows yX12_askRows, Cond.code yX12_askRows cX12_askRows 4 none, Cond.fieldLink RX12 54 "VoiceHeapsModel" "isAsked" "[Z", Cond.methodLink RX12 100 yX12_in, Cond.static yX12_in, Cond.code yX12_in cX12_in 3 (some .boolean), Cond.methodLink RX12 181 yX12_findMiddle, Cond.instanceMethod yX12_findMiddle, Cond.selects RX12 yX12_findMiddle yX12_findMiddle, Cond.code yX12_findMiddle cX12_findMiddle 6 none, Cond.fieldLink RX12 60 "VoiceHeapsModel" "line" "[I", Cond.methodLink RX12 206 yX12_isPiece, Cond.instanceMethod yX12_isPiece, Cond.selects RX12 yX12_isPiece yX12_isPiece, Cond.code yX12_isPiece cX12_isPiece 2 (some .boolean)]
def wsX12_like_r3 : List Cond := [Cond.methodLink RX12 212 yX12_likeOf, Cond.instanceMethod yX12_likeOf, Cond.selects RX12 yX12_likeOf yX12_likeOf, Cond.code yX12_likeOf cX12_likeOf 5 (some .int), Cond.methodLink RX12 209 yX12_size, Cond.static yX12_size, Cond.code yX12_size cX12_size 1 (some .int)]
def wsX12_like : List Cond := .code yX12_like cX12_like 3 (some .int) :: ((wsX12_like_r1 ++ (wsX12_like_r2 ++ wsX12_like_r3)) ++ wsX120)
def wsX12_touch : List Cond := .code yX12_touch cX12_touch 4 (some .boolean) :: ([.fieldLink RX12 39 "VoiceHeapsModel" "first" "[I", .fieldLink RX12 42 "VoiceHeapsModel" "many" "[I", .methodLink RX12 209 yX12_size, .static yX12_size, .initialized RX12, .code yX12_size cX12_size 1 (some .int)] ++ wsX120)
def wsX12_findGains : List Cond := .code yX12_findGains cX12_findGains 3 none :: ([.fieldLink RX12 191 "VoiceHeapsModel" "pieces" "I", .fieldLink RX12 78 "VoiceHeapsModel" "gain" "[I", .fieldLink RX12 7 "VoiceHeapsModel" "rule" "[I", .methodLink RX12 212 yX12_likeOf, .instanceMethod yX12_likeOf, .selects RX12 yX12_likeOf yX12_likeOf, .initialized RX12, .code yX12_likeOf cX12_likeOf 5 (some .int), .fieldLink RX12 48 "VoiceHeapsModel" "middle" "[I", .fieldLink RX12 42 "VoiceHeapsModel" "many" "[I", .methodLink RX12 209 yX12_size, .static yX12_size, .code yX12_size cX12_size 1 (some .int), .methodLink RX12 216 yX12_touch, .instanceMethod yX12_touch, .selects RX12 yX12_touch yX12_touch, .code yX12_touch cX12_touch 4 (some .boolean), .fieldLink RX12 39 "VoiceHeapsModel" "first" "[I"] ++ wsX120)
def wsX12_worthOf : List Cond := .code yX12_worthOf cX12_worthOf 5 (some .int) :: ([.fieldLink RX12 191 "VoiceHeapsModel" "pieces" "I", .fieldLink RX12 78 "VoiceHeapsModel" "gain" "[I"] ++ wsX120)
def wsX12_heapsIn : List Cond := .code yX12_heapsIn cX12_heapsIn 4 (some .int) :: ([])
def wsX12_goOn : List Cond := .code yX12_goOn cX12_goOn 3 (some .boolean) :: ([.fieldLink RX12 191 "VoiceHeapsModel" "pieces" "I", .fieldLink RX12 69 "VoiceHeapsModel" "heap" "[I", .methodLink RX12 219 yX12_heapsIn, .static yX12_heapsIn, .initialized RX12, .code yX12_heapsIn cX12_heapsIn 4 (some .int)] ++ wsX120)
def wsX12_begin : List Cond := .code yX12_begin cX12_begin 2 none :: ([.fieldLink RX12 69 "VoiceHeapsModel" "heap" "[I"] ++ wsX120)
def wsX12_findBest_r1 : List Cond := [Cond.fieldLink RX12 191 "VoiceHeapsModel" "pieces" "I", Cond.fieldLink RX12 69 "VoiceHeapsModel" "heap" "[I", Cond.fieldLink RX12 233 "VoiceHeapsModel" "bestWorth" "I", Cond.fieldLink RX12 72 "VoiceHeapsModel" "best" "[I", Cond.methodLink RX12 203 yX12_findPieces, Cond.instanceMethod yX12_findPieces, Cond.selects RX12 yX12_findPieces yX12_findPieces, Cond.initialized RX12, Cond.code yX12_findPieces cX12_findPieces 3 none, Cond.fieldLink RX12 194 "VoiceHeapsModel" "stretches" "I", Cond.fieldLink RX12 188 "VoiceHeapsModel" "price" "I", Cond.fieldLink RX12 156 "VoiceHeapsModel" "rows" "I", Cond.fieldLink RX12 45 "VoiceHeapsModel" "pieceOf" "[I", Cond.methodLink RX12 197 yX12_isHeard, Cond.instanceMethod yX12_isHeard, Cond.selects RX12 yX12_isHeard yX12_isHeard, Cond.code yX12_isHeard cX12_isHeard 3 (some .boolean), Cond.fieldLink RX12 17 "VoiceHeapsModel" "number" "[I", Cond.fieldLink RX12 20 "VoiceHeapsModel" "isDeaf" "[Z", Cond.fieldLink RX12 24 "VoiceHeapsModel" "isOut" "[Z", Cond.fieldLink RX12 7 "VoiceHeapsModel" "rule" "[I", Cond.methodLink RX12 200 yX12_cut, Cond.instanceMethod yX12_cut, Cond.selects RX12 yX12_cut yX12_cut]
def wsX12_findBest_r2 : List Cond := [Cond.code yX12_cut cX12_cut 6 none, Cond.fieldLink RX12 63 "VoiceHeapsModel" "least" "[I", Cond.fieldLink RX12 66 "VoiceHeapsModel" "taken" "[I", Cond.fieldLink RX12 178 "VoiceHeapsModel" "apart" "I", Cond.fieldLink RX12 39 "VoiceHeapsModel" "first" "[I", Cond.fieldLink RX12 42 "VoiceHeapsModel" "many" "[I", Cond.fieldLink RX12 51 "VoiceHeapsModel" "spread" "[I", Cond.fieldLink RX12 48 "VoiceHeapsModel" "middle" "[I", Cond.fieldLink RX12 57 "VoiceHeapsModel" "mid" "[I", Cond.methodLink RX12 184 yX12_askRows, Cond.instanceMethod yX12_askRows, Cond.selects RX12 yX12_askRows yX12_askRows, Cond.code yX12_askRows cX12_askRows 4 none, Cond.fieldLink RX12 54 "VoiceHeapsModel" "isAsked" "[Z", Cond.methodLink RX12 100 yX12_in, Cond.static yX12_in, Cond.code yX12_in cX12_in 3 (some .boolean), Cond.methodLink RX12 181 yX12_findMiddle, Cond.instanceMethod yX12_findMiddle, Cond.selects RX12 yX12_findMiddle yX12_findMiddle, Cond.code yX12_findMiddle cX12_findMiddle 6 none, Cond.fieldLink RX12 60 "VoiceHeapsModel" "line" "[I", Cond.methodLink RX12 223 yX12_findGains, Cond.instanceMethod yX12_findGains]
def wsX12_findBest_r3 : List Cond := [Cond.selects RX12 yX12_findGains yX12_findGains, Cond.code yX12_findGains cX12_findGains 3 none, Cond.fieldLink RX12 78 "VoiceHeapsModel" "gain" "[I", Cond.methodLink RX12 212 yX12_likeOf, Cond.instanceMethod yX12_likeOf, Cond.selects RX12 yX12_likeOf yX12_likeOf, Cond.code yX12_likeOf cX12_likeOf 5 (some .int), Cond.methodLink RX12 209 yX12_size, Cond.static yX12_size, Cond.code yX12_size cX12_size 1 (some .int), Cond.methodLink RX12 216 yX12_touch, Cond.instanceMethod yX12_touch, Cond.selects RX12 yX12_touch yX12_touch, Cond.code yX12_touch cX12_touch 4 (some .boolean), Cond.methodLink RX12 226 yX12_begin, Cond.instanceMethod yX12_begin, Cond.selects RX12 yX12_begin yX12_begin, Cond.code yX12_begin cX12_begin 2 none, Cond.methodLink RX12 229 yX12_worthOf, Cond.instanceMethod yX12_worthOf, Cond.selects RX12 yX12_worthOf yX12_worthOf, Cond.code yX12_worthOf cX12_worthOf 5 (some .int), Cond.methodLink RX12 236 yX12_goOn, Cond.instanceMethod yX12_goOn]
def wsX12_findBest_r4 : List Cond := [Cond.selects RX12 yX12_goOn yX12_goOn, Cond.code yX12_goOn cX12_goOn 3 (some .boolean), Cond.methodLink RX12 219 yX12_heapsIn, Cond.static yX12_heapsIn, Cond.code yX12_heapsIn cX12_heapsIn 4 (some .int)]
def wsX12_findBest : List Cond := .code yX12_findBest cX12_findBest 5 (some .boolean) :: ((wsX12_findBest_r1 ++ (wsX12_findBest_r2 ++ (wsX12_findBest_r3 ++ wsX12_findBest_r4))) ++ wsX120)
def wsX12_join : List Cond := .code yX12_join cX12_join 10 none :: ([.fieldLink RX12 191 "VoiceHeapsModel" "pieces" "I", .fieldLink RX12 75 "VoiceHeapsModel" "joined" "[I", .fieldLink RX12 78 "VoiceHeapsModel" "gain" "[I", .fieldLink RX12 69 "VoiceHeapsModel" "heap" "[I"] ++ wsX120)
def wsX12_heap_r1 : List Cond := [Cond.fieldLink RX12 72 "VoiceHeapsModel" "best" "[I", Cond.fieldLink RX12 75 "VoiceHeapsModel" "joined" "[I", Cond.methodLink RX12 203 yX12_findPieces, Cond.instanceMethod yX12_findPieces, Cond.selects RX12 yX12_findPieces yX12_findPieces, Cond.initialized RX12, Cond.code yX12_findPieces cX12_findPieces 3 none, Cond.fieldLink RX12 191 "VoiceHeapsModel" "pieces" "I", Cond.fieldLink RX12 194 "VoiceHeapsModel" "stretches" "I", Cond.fieldLink RX12 188 "VoiceHeapsModel" "price" "I", Cond.fieldLink RX12 156 "VoiceHeapsModel" "rows" "I", Cond.fieldLink RX12 45 "VoiceHeapsModel" "pieceOf" "[I", Cond.methodLink RX12 197 yX12_isHeard, Cond.instanceMethod yX12_isHeard, Cond.selects RX12 yX12_isHeard yX12_isHeard, Cond.code yX12_isHeard cX12_isHeard 3 (some .boolean), Cond.fieldLink RX12 17 "VoiceHeapsModel" "number" "[I", Cond.fieldLink RX12 20 "VoiceHeapsModel" "isDeaf" "[Z", Cond.fieldLink RX12 24 "VoiceHeapsModel" "isOut" "[Z", Cond.fieldLink RX12 7 "VoiceHeapsModel" "rule" "[I", Cond.methodLink RX12 200 yX12_cut, Cond.instanceMethod yX12_cut, Cond.selects RX12 yX12_cut yX12_cut, Cond.code yX12_cut cX12_cut 6 none]
def wsX12_heap_r2 : List Cond := [Cond.fieldLink RX12 63 "VoiceHeapsModel" "least" "[I", Cond.fieldLink RX12 66 "VoiceHeapsModel" "taken" "[I", Cond.fieldLink RX12 178 "VoiceHeapsModel" "apart" "I", Cond.fieldLink RX12 39 "VoiceHeapsModel" "first" "[I", Cond.fieldLink RX12 42 "VoiceHeapsModel" "many" "[I", Cond.fieldLink RX12 51 "VoiceHeapsModel" "spread" "[I", Cond.fieldLink RX12 48 "VoiceHeapsModel" "middle" "[I", Cond.fieldLink RX12 57 "VoiceHeapsModel" "mid" "[I", Cond.methodLink RX12 184 yX12_askRows, Cond.instanceMethod yX12_askRows, Cond.selects RX12 yX12_askRows yX12_askRows, Cond.code yX12_askRows cX12_askRows 4 none, Cond.fieldLink RX12 54 "VoiceHeapsModel" "isAsked" "[Z", Cond.methodLink RX12 100 yX12_in, Cond.static yX12_in, Cond.code yX12_in cX12_in 3 (some .boolean), Cond.methodLink RX12 181 yX12_findMiddle, Cond.instanceMethod yX12_findMiddle, Cond.selects RX12 yX12_findMiddle yX12_findMiddle, Cond.code yX12_findMiddle cX12_findMiddle 6 none, Cond.fieldLink RX12 60 "VoiceHeapsModel" "line" "[I", Cond.methodLink RX12 206 yX12_isPiece, Cond.instanceMethod yX12_isPiece, Cond.selects RX12 yX12_isPiece yX12_isPiece]
def wsX12_heap_r3 : List Cond := [Cond.code yX12_isPiece cX12_isPiece 2 (some .boolean), Cond.methodLink RX12 240 yX12_findBest, Cond.instanceMethod yX12_findBest, Cond.selects RX12 yX12_findBest yX12_findBest, Cond.code yX12_findBest cX12_findBest 5 (some .boolean), Cond.fieldLink RX12 69 "VoiceHeapsModel" "heap" "[I", Cond.fieldLink RX12 233 "VoiceHeapsModel" "bestWorth" "I", Cond.methodLink RX12 223 yX12_findGains, Cond.instanceMethod yX12_findGains, Cond.selects RX12 yX12_findGains yX12_findGains, Cond.code yX12_findGains cX12_findGains 3 none, Cond.fieldLink RX12 78 "VoiceHeapsModel" "gain" "[I", Cond.methodLink RX12 212 yX12_likeOf, Cond.instanceMethod yX12_likeOf, Cond.selects RX12 yX12_likeOf yX12_likeOf, Cond.code yX12_likeOf cX12_likeOf 5 (some .int), Cond.methodLink RX12 209 yX12_size, Cond.static yX12_size, Cond.code yX12_size cX12_size 1 (some .int), Cond.methodLink RX12 216 yX12_touch, Cond.instanceMethod yX12_touch, Cond.selects RX12 yX12_touch yX12_touch, Cond.code yX12_touch cX12_touch 4 (some .boolean), Cond.methodLink RX12 226 yX12_begin]
def wsX12_heap_r4 : List Cond := [Cond.instanceMethod yX12_begin, Cond.selects RX12 yX12_begin yX12_begin, Cond.code yX12_begin cX12_begin 2 none, Cond.methodLink RX12 229 yX12_worthOf, Cond.instanceMethod yX12_worthOf, Cond.selects RX12 yX12_worthOf yX12_worthOf, Cond.code yX12_worthOf cX12_worthOf 5 (some .int), Cond.methodLink RX12 236 yX12_goOn, Cond.instanceMethod yX12_goOn, Cond.selects RX12 yX12_goOn yX12_goOn, Cond.code yX12_goOn cX12_goOn 3 (some .boolean), Cond.methodLink RX12 219 yX12_heapsIn, Cond.static yX12_heapsIn, Cond.code yX12_heapsIn cX12_heapsIn 4 (some .int), Cond.methodLink RX12 243 yX12_join, Cond.instanceMethod yX12_join, Cond.selects RX12 yX12_join yX12_join, Cond.code yX12_join cX12_join 10 none]
def wsX12_heap : List Cond := .code yX12_heap cX12_heap 3 (some .int) :: ((wsX12_heap_r1 ++ (wsX12_heap_r2 ++ (wsX12_heap_r3 ++ wsX12_heap_r4))) ++ wsX120)
def wsX12_worth_r1 : List Cond := [Cond.constant RX12 215 (-1000000), Cond.fieldLink RX12 233 "VoiceHeapsModel" "bestWorth" "I", Cond.fieldLink RX12 75 "VoiceHeapsModel" "joined" "[I", Cond.methodLink RX12 100 yX12_in, Cond.static yX12_in, Cond.initialized RX12, Cond.code yX12_in cX12_in 3 (some .boolean), Cond.methodLink RX12 240 yX12_findBest, Cond.instanceMethod yX12_findBest, Cond.selects RX12 yX12_findBest yX12_findBest, Cond.code yX12_findBest cX12_findBest 5 (some .boolean), Cond.fieldLink RX12 191 "VoiceHeapsModel" "pieces" "I", Cond.fieldLink RX12 69 "VoiceHeapsModel" "heap" "[I", Cond.fieldLink RX12 72 "VoiceHeapsModel" "best" "[I", Cond.methodLink RX12 203 yX12_findPieces, Cond.instanceMethod yX12_findPieces, Cond.selects RX12 yX12_findPieces yX12_findPieces, Cond.code yX12_findPieces cX12_findPieces 3 none, Cond.fieldLink RX12 194 "VoiceHeapsModel" "stretches" "I", Cond.fieldLink RX12 188 "VoiceHeapsModel" "price" "I", Cond.fieldLink RX12 156 "VoiceHeapsModel" "rows" "I", Cond.fieldLink RX12 45 "VoiceHeapsModel" "pieceOf" "[I", Cond.methodLink RX12 197 yX12_isHeard, Cond.instanceMethod yX12_isHeard]
def wsX12_worth_r2 : List Cond := [Cond.selects RX12 yX12_isHeard yX12_isHeard, Cond.code yX12_isHeard cX12_isHeard 3 (some .boolean), Cond.fieldLink RX12 17 "VoiceHeapsModel" "number" "[I", Cond.fieldLink RX12 20 "VoiceHeapsModel" "isDeaf" "[Z", Cond.fieldLink RX12 24 "VoiceHeapsModel" "isOut" "[Z", Cond.fieldLink RX12 7 "VoiceHeapsModel" "rule" "[I", Cond.methodLink RX12 200 yX12_cut, Cond.instanceMethod yX12_cut, Cond.selects RX12 yX12_cut yX12_cut, Cond.code yX12_cut cX12_cut 6 none, Cond.fieldLink RX12 63 "VoiceHeapsModel" "least" "[I", Cond.fieldLink RX12 66 "VoiceHeapsModel" "taken" "[I", Cond.fieldLink RX12 178 "VoiceHeapsModel" "apart" "I", Cond.fieldLink RX12 39 "VoiceHeapsModel" "first" "[I", Cond.fieldLink RX12 42 "VoiceHeapsModel" "many" "[I", Cond.fieldLink RX12 51 "VoiceHeapsModel" "spread" "[I", Cond.fieldLink RX12 48 "VoiceHeapsModel" "middle" "[I", Cond.fieldLink RX12 57 "VoiceHeapsModel" "mid" "[I", Cond.methodLink RX12 184 yX12_askRows, Cond.instanceMethod yX12_askRows, Cond.selects RX12 yX12_askRows yX12_askRows, Cond.code yX12_askRows cX12_askRows 4 none, Cond.fieldLink RX12 54 "VoiceHeapsModel" "isAsked" "[Z", Cond.methodLink RX12 181 yX12_findMiddle]
def wsX12_worth_r3 : List Cond := [Cond.instanceMethod yX12_findMiddle, Cond.selects RX12 yX12_findMiddle yX12_findMiddle, Cond.code yX12_findMiddle cX12_findMiddle 6 none, Cond.fieldLink RX12 60 "VoiceHeapsModel" "line" "[I", Cond.methodLink RX12 223 yX12_findGains, Cond.instanceMethod yX12_findGains, Cond.selects RX12 yX12_findGains yX12_findGains, Cond.code yX12_findGains cX12_findGains 3 none, Cond.fieldLink RX12 78 "VoiceHeapsModel" "gain" "[I", Cond.methodLink RX12 212 yX12_likeOf, Cond.instanceMethod yX12_likeOf, Cond.selects RX12 yX12_likeOf yX12_likeOf, Cond.code yX12_likeOf cX12_likeOf 5 (some .int), Cond.methodLink RX12 209 yX12_size, Cond.static yX12_size, Cond.code yX12_size cX12_size 1 (some .int), Cond.methodLink RX12 216 yX12_touch, Cond.instanceMethod yX12_touch, Cond.selects RX12 yX12_touch yX12_touch, Cond.code yX12_touch cX12_touch 4 (some .boolean), Cond.methodLink RX12 226 yX12_begin, Cond.instanceMethod yX12_begin, Cond.selects RX12 yX12_begin yX12_begin, Cond.code yX12_begin cX12_begin 2 none]
def wsX12_worth_r4 : List Cond := [Cond.methodLink RX12 229 yX12_worthOf, Cond.instanceMethod yX12_worthOf, Cond.selects RX12 yX12_worthOf yX12_worthOf, Cond.code yX12_worthOf cX12_worthOf 5 (some .int), Cond.methodLink RX12 236 yX12_goOn, Cond.instanceMethod yX12_goOn, Cond.selects RX12 yX12_goOn yX12_goOn, Cond.code yX12_goOn cX12_goOn 3 (some .boolean), Cond.methodLink RX12 219 yX12_heapsIn, Cond.static yX12_heapsIn, Cond.code yX12_heapsIn cX12_heapsIn 4 (some .int), Cond.methodLink RX12 243 yX12_join, Cond.instanceMethod yX12_join, Cond.selects RX12 yX12_join yX12_join, Cond.code yX12_join cX12_join 10 none]
def wsX12_worth : List Cond := .code yX12_worth cX12_worth 2 (some .int) :: ((wsX12_worth_r1 ++ (wsX12_worth_r2 ++ (wsX12_worth_r3 ++ wsX12_worth_r4))) ++ wsX120)
def wsX12_near_r1 : List Cond := [Cond.fieldLink RX12 72 "VoiceHeapsModel" "best" "[I", Cond.fieldLink RX12 191 "VoiceHeapsModel" "pieces" "I", Cond.fieldLink RX12 75 "VoiceHeapsModel" "joined" "[I", Cond.fieldLink RX12 69 "VoiceHeapsModel" "heap" "[I", Cond.fieldLink RX12 233 "VoiceHeapsModel" "bestWorth" "I", Cond.fieldLink RX12 7 "VoiceHeapsModel" "rule" "[I", Cond.methodLink RX12 100 yX12_in, Cond.static yX12_in, Cond.initialized RX12, Cond.code yX12_in cX12_in 3 (some .boolean), Cond.methodLink RX12 240 yX12_findBest, Cond.instanceMethod yX12_findBest, Cond.selects RX12 yX12_findBest yX12_findBest, Cond.code yX12_findBest cX12_findBest 5 (some .boolean), Cond.methodLink RX12 203 yX12_findPieces, Cond.instanceMethod yX12_findPieces, Cond.selects RX12 yX12_findPieces yX12_findPieces, Cond.code yX12_findPieces cX12_findPieces 3 none, Cond.fieldLink RX12 194 "VoiceHeapsModel" "stretches" "I", Cond.fieldLink RX12 188 "VoiceHeapsModel" "price" "I", Cond.fieldLink RX12 156 "VoiceHeapsModel" "rows" "I", Cond.fieldLink RX12 45 "VoiceHeapsModel" "pieceOf" "[I", Cond.methodLink RX12 197 yX12_isHeard, Cond.instanceMethod yX12_isHeard]
def wsX12_near_r2 : List Cond := [Cond.selects RX12 yX12_isHeard yX12_isHeard, Cond.code yX12_isHeard cX12_isHeard 3 (some .boolean), Cond.fieldLink RX12 17 "VoiceHeapsModel" "number" "[I", Cond.fieldLink RX12 20 "VoiceHeapsModel" "isDeaf" "[Z", Cond.fieldLink RX12 24 "VoiceHeapsModel" "isOut" "[Z", Cond.methodLink RX12 200 yX12_cut, Cond.instanceMethod yX12_cut, Cond.selects RX12 yX12_cut yX12_cut, Cond.code yX12_cut cX12_cut 6 none, Cond.fieldLink RX12 63 "VoiceHeapsModel" "least" "[I", Cond.fieldLink RX12 66 "VoiceHeapsModel" "taken" "[I", Cond.fieldLink RX12 178 "VoiceHeapsModel" "apart" "I", Cond.fieldLink RX12 39 "VoiceHeapsModel" "first" "[I", Cond.fieldLink RX12 42 "VoiceHeapsModel" "many" "[I", Cond.fieldLink RX12 51 "VoiceHeapsModel" "spread" "[I", Cond.fieldLink RX12 48 "VoiceHeapsModel" "middle" "[I", Cond.fieldLink RX12 57 "VoiceHeapsModel" "mid" "[I", Cond.methodLink RX12 184 yX12_askRows, Cond.instanceMethod yX12_askRows, Cond.selects RX12 yX12_askRows yX12_askRows, Cond.code yX12_askRows cX12_askRows 4 none, Cond.fieldLink RX12 54 "VoiceHeapsModel" "isAsked" "[Z", Cond.methodLink RX12 181 yX12_findMiddle, Cond.instanceMethod yX12_findMiddle]
def wsX12_near_r3 : List Cond := [Cond.selects RX12 yX12_findMiddle yX12_findMiddle, Cond.code yX12_findMiddle cX12_findMiddle 6 none, Cond.fieldLink RX12 60 "VoiceHeapsModel" "line" "[I", Cond.methodLink RX12 223 yX12_findGains, Cond.instanceMethod yX12_findGains, Cond.selects RX12 yX12_findGains yX12_findGains, Cond.code yX12_findGains cX12_findGains 3 none, Cond.fieldLink RX12 78 "VoiceHeapsModel" "gain" "[I", Cond.methodLink RX12 212 yX12_likeOf, Cond.instanceMethod yX12_likeOf, Cond.selects RX12 yX12_likeOf yX12_likeOf, Cond.code yX12_likeOf cX12_likeOf 5 (some .int), Cond.methodLink RX12 209 yX12_size, Cond.static yX12_size, Cond.code yX12_size cX12_size 1 (some .int), Cond.methodLink RX12 216 yX12_touch, Cond.instanceMethod yX12_touch, Cond.selects RX12 yX12_touch yX12_touch, Cond.code yX12_touch cX12_touch 4 (some .boolean), Cond.methodLink RX12 226 yX12_begin, Cond.instanceMethod yX12_begin, Cond.selects RX12 yX12_begin yX12_begin, Cond.code yX12_begin cX12_begin 2 none, Cond.methodLink RX12 229 yX12_worthOf]
def wsX12_near_r4 : List Cond := [Cond.instanceMethod yX12_worthOf, Cond.selects RX12 yX12_worthOf yX12_worthOf, Cond.code yX12_worthOf cX12_worthOf 5 (some .int), Cond.methodLink RX12 236 yX12_goOn, Cond.instanceMethod yX12_goOn, Cond.selects RX12 yX12_goOn yX12_goOn, Cond.code yX12_goOn cX12_goOn 3 (some .boolean), Cond.methodLink RX12 219 yX12_heapsIn, Cond.static yX12_heapsIn, Cond.code yX12_heapsIn cX12_heapsIn 4 (some .int), Cond.methodLink RX12 243 yX12_join, Cond.instanceMethod yX12_join, Cond.selects RX12 yX12_join yX12_join, Cond.code yX12_join cX12_join 10 none]
def wsX12_near : List Cond := .code yX12_near cX12_near 7 (some .int) :: ((wsX12_near_r1 ++ (wsX12_near_r2 ++ (wsX12_near_r3 ++ wsX12_near_r4))) ++ wsX120)
def wsX12_sure_r1 : List Cond := [Cond.fieldLink RX12 69 "VoiceHeapsModel" "heap" "[I", Cond.fieldLink RX12 233 "VoiceHeapsModel" "bestWorth" "I", Cond.fieldLink RX12 7 "VoiceHeapsModel" "rule" "[I", Cond.methodLink RX12 203 yX12_findPieces, Cond.instanceMethod yX12_findPieces, Cond.selects RX12 yX12_findPieces yX12_findPieces, Cond.initialized RX12, Cond.code yX12_findPieces cX12_findPieces 3 none, Cond.fieldLink RX12 191 "VoiceHeapsModel" "pieces" "I", Cond.fieldLink RX12 194 "VoiceHeapsModel" "stretches" "I", Cond.fieldLink RX12 188 "VoiceHeapsModel" "price" "I", Cond.fieldLink RX12 156 "VoiceHeapsModel" "rows" "I", Cond.fieldLink RX12 45 "VoiceHeapsModel" "pieceOf" "[I", Cond.methodLink RX12 197 yX12_isHeard, Cond.instanceMethod yX12_isHeard, Cond.selects RX12 yX12_isHeard yX12_isHeard, Cond.code yX12_isHeard cX12_isHeard 3 (some .boolean), Cond.fieldLink RX12 17 "VoiceHeapsModel" "number" "[I", Cond.fieldLink RX12 20 "VoiceHeapsModel" "isDeaf" "[Z", Cond.fieldLink RX12 24 "VoiceHeapsModel" "isOut" "[Z", Cond.methodLink RX12 200 yX12_cut, Cond.instanceMethod yX12_cut, Cond.selects RX12 yX12_cut yX12_cut, Cond.code yX12_cut cX12_cut 6 none]
def wsX12_sure_r2 : List Cond := [Cond.fieldLink RX12 63 "VoiceHeapsModel" "least" "[I", Cond.fieldLink RX12 66 "VoiceHeapsModel" "taken" "[I", Cond.fieldLink RX12 178 "VoiceHeapsModel" "apart" "I", Cond.fieldLink RX12 39 "VoiceHeapsModel" "first" "[I", Cond.fieldLink RX12 42 "VoiceHeapsModel" "many" "[I", Cond.fieldLink RX12 51 "VoiceHeapsModel" "spread" "[I", Cond.fieldLink RX12 48 "VoiceHeapsModel" "middle" "[I", Cond.fieldLink RX12 57 "VoiceHeapsModel" "mid" "[I", Cond.methodLink RX12 184 yX12_askRows, Cond.instanceMethod yX12_askRows, Cond.selects RX12 yX12_askRows yX12_askRows, Cond.code yX12_askRows cX12_askRows 4 none, Cond.fieldLink RX12 54 "VoiceHeapsModel" "isAsked" "[Z", Cond.methodLink RX12 100 yX12_in, Cond.static yX12_in, Cond.code yX12_in cX12_in 3 (some .boolean), Cond.methodLink RX12 181 yX12_findMiddle, Cond.instanceMethod yX12_findMiddle, Cond.selects RX12 yX12_findMiddle yX12_findMiddle, Cond.code yX12_findMiddle cX12_findMiddle 6 none, Cond.fieldLink RX12 60 "VoiceHeapsModel" "line" "[I", Cond.methodLink RX12 206 yX12_isPiece, Cond.instanceMethod yX12_isPiece, Cond.selects RX12 yX12_isPiece yX12_isPiece]
def wsX12_sure_r3 : List Cond := [Cond.code yX12_isPiece cX12_isPiece 2 (some .boolean), Cond.methodLink RX12 240 yX12_findBest, Cond.instanceMethod yX12_findBest, Cond.selects RX12 yX12_findBest yX12_findBest, Cond.code yX12_findBest cX12_findBest 5 (some .boolean), Cond.fieldLink RX12 72 "VoiceHeapsModel" "best" "[I", Cond.methodLink RX12 223 yX12_findGains, Cond.instanceMethod yX12_findGains, Cond.selects RX12 yX12_findGains yX12_findGains, Cond.code yX12_findGains cX12_findGains 3 none, Cond.fieldLink RX12 78 "VoiceHeapsModel" "gain" "[I", Cond.methodLink RX12 212 yX12_likeOf, Cond.instanceMethod yX12_likeOf, Cond.selects RX12 yX12_likeOf yX12_likeOf, Cond.code yX12_likeOf cX12_likeOf 5 (some .int), Cond.methodLink RX12 209 yX12_size, Cond.static yX12_size, Cond.code yX12_size cX12_size 1 (some .int), Cond.methodLink RX12 216 yX12_touch, Cond.instanceMethod yX12_touch, Cond.selects RX12 yX12_touch yX12_touch, Cond.code yX12_touch cX12_touch 4 (some .boolean), Cond.methodLink RX12 226 yX12_begin, Cond.instanceMethod yX12_begin]
def wsX12_sure_r4 : List Cond := [Cond.selects RX12 yX12_begin yX12_begin, Cond.code yX12_begin cX12_begin 2 none, Cond.methodLink RX12 229 yX12_worthOf, Cond.instanceMethod yX12_worthOf, Cond.selects RX12 yX12_worthOf yX12_worthOf, Cond.code yX12_worthOf cX12_worthOf 5 (some .int), Cond.methodLink RX12 236 yX12_goOn, Cond.instanceMethod yX12_goOn, Cond.selects RX12 yX12_goOn yX12_goOn, Cond.code yX12_goOn cX12_goOn 3 (some .boolean), Cond.methodLink RX12 219 yX12_heapsIn, Cond.static yX12_heapsIn, Cond.code yX12_heapsIn cX12_heapsIn 4 (some .int)]
def wsX12_sure : List Cond := .code yX12_sure cX12_sure 6 (some .int) :: ((wsX12_sure_r1 ++ (wsX12_sure_r2 ++ (wsX12_sure_r3 ++ wsX12_sure_r4))) ++ wsX120)
def wsX12_findHeapMiddles : List Cond := .code yX12_findHeapMiddles cX12_findHeapMiddles 3 none :: ([.fieldLink RX12 72 "VoiceHeapsModel" "best" "[I", .fieldLink RX12 191 "VoiceHeapsModel" "pieces" "I", .fieldLink RX12 156 "VoiceHeapsModel" "rows" "I", .fieldLink RX12 54 "VoiceHeapsModel" "isAsked" "[Z", .fieldLink RX12 45 "VoiceHeapsModel" "pieceOf" "[I", .fieldLink RX12 81 "VoiceHeapsModel" "heapMiddle" "[I", .fieldLink RX12 57 "VoiceHeapsModel" "mid" "[I", .methodLink RX12 219 yX12_heapsIn, .static yX12_heapsIn, .initialized RX12, .code yX12_heapsIn cX12_heapsIn 4 (some .int), .methodLink RX12 181 yX12_findMiddle, .instanceMethod yX12_findMiddle, .selects RX12 yX12_findMiddle yX12_findMiddle, .code yX12_findMiddle cX12_findMiddle 6 none, .fieldLink RX12 178 "VoiceHeapsModel" "apart" "I", .fieldLink RX12 17 "VoiceHeapsModel" "number" "[I", .fieldLink RX12 60 "VoiceHeapsModel" "line" "[I"] ++ wsX120)
def wsX12_wrong_r1 : List Cond := [Cond.fieldLink RX12 72 "VoiceHeapsModel" "best" "[I", Cond.fieldLink RX12 191 "VoiceHeapsModel" "pieces" "I", Cond.methodLink RX12 100 yX12_in, Cond.static yX12_in, Cond.initialized RX12, Cond.code yX12_in cX12_in 3 (some .boolean), Cond.methodLink RX12 240 yX12_findBest, Cond.instanceMethod yX12_findBest, Cond.selects RX12 yX12_findBest yX12_findBest, Cond.code yX12_findBest cX12_findBest 5 (some .boolean), Cond.fieldLink RX12 69 "VoiceHeapsModel" "heap" "[I", Cond.fieldLink RX12 233 "VoiceHeapsModel" "bestWorth" "I", Cond.methodLink RX12 203 yX12_findPieces, Cond.instanceMethod yX12_findPieces, Cond.selects RX12 yX12_findPieces yX12_findPieces, Cond.code yX12_findPieces cX12_findPieces 3 none, Cond.fieldLink RX12 194 "VoiceHeapsModel" "stretches" "I", Cond.fieldLink RX12 188 "VoiceHeapsModel" "price" "I", Cond.fieldLink RX12 156 "VoiceHeapsModel" "rows" "I", Cond.fieldLink RX12 45 "VoiceHeapsModel" "pieceOf" "[I", Cond.methodLink RX12 197 yX12_isHeard, Cond.instanceMethod yX12_isHeard, Cond.selects RX12 yX12_isHeard yX12_isHeard, Cond.code yX12_isHeard cX12_isHeard 3 (some .boolean)]
def wsX12_wrong_r2 : List Cond := [Cond.fieldLink RX12 17 "VoiceHeapsModel" "number" "[I", Cond.fieldLink RX12 20 "VoiceHeapsModel" "isDeaf" "[Z", Cond.fieldLink RX12 24 "VoiceHeapsModel" "isOut" "[Z", Cond.fieldLink RX12 7 "VoiceHeapsModel" "rule" "[I", Cond.methodLink RX12 200 yX12_cut, Cond.instanceMethod yX12_cut, Cond.selects RX12 yX12_cut yX12_cut, Cond.code yX12_cut cX12_cut 6 none, Cond.fieldLink RX12 63 "VoiceHeapsModel" "least" "[I", Cond.fieldLink RX12 66 "VoiceHeapsModel" "taken" "[I", Cond.fieldLink RX12 178 "VoiceHeapsModel" "apart" "I", Cond.fieldLink RX12 39 "VoiceHeapsModel" "first" "[I", Cond.fieldLink RX12 42 "VoiceHeapsModel" "many" "[I", Cond.fieldLink RX12 51 "VoiceHeapsModel" "spread" "[I", Cond.fieldLink RX12 48 "VoiceHeapsModel" "middle" "[I", Cond.fieldLink RX12 57 "VoiceHeapsModel" "mid" "[I", Cond.methodLink RX12 184 yX12_askRows, Cond.instanceMethod yX12_askRows, Cond.selects RX12 yX12_askRows yX12_askRows, Cond.code yX12_askRows cX12_askRows 4 none, Cond.fieldLink RX12 54 "VoiceHeapsModel" "isAsked" "[Z", Cond.methodLink RX12 181 yX12_findMiddle, Cond.instanceMethod yX12_findMiddle, Cond.selects RX12 yX12_findMiddle yX12_findMiddle]
def wsX12_wrong_r3 : List Cond := [Cond.code yX12_findMiddle cX12_findMiddle 6 none, Cond.fieldLink RX12 60 "VoiceHeapsModel" "line" "[I", Cond.methodLink RX12 223 yX12_findGains, Cond.instanceMethod yX12_findGains, Cond.selects RX12 yX12_findGains yX12_findGains, Cond.code yX12_findGains cX12_findGains 3 none, Cond.fieldLink RX12 78 "VoiceHeapsModel" "gain" "[I", Cond.methodLink RX12 212 yX12_likeOf, Cond.instanceMethod yX12_likeOf, Cond.selects RX12 yX12_likeOf yX12_likeOf, Cond.code yX12_likeOf cX12_likeOf 5 (some .int), Cond.methodLink RX12 209 yX12_size, Cond.static yX12_size, Cond.code yX12_size cX12_size 1 (some .int), Cond.methodLink RX12 216 yX12_touch, Cond.instanceMethod yX12_touch, Cond.selects RX12 yX12_touch yX12_touch, Cond.code yX12_touch cX12_touch 4 (some .boolean), Cond.methodLink RX12 226 yX12_begin, Cond.instanceMethod yX12_begin, Cond.selects RX12 yX12_begin yX12_begin, Cond.code yX12_begin cX12_begin 2 none, Cond.methodLink RX12 229 yX12_worthOf, Cond.instanceMethod yX12_worthOf]
def wsX12_wrong_r4 : List Cond := [Cond.selects RX12 yX12_worthOf yX12_worthOf, Cond.code yX12_worthOf cX12_worthOf 5 (some .int), Cond.methodLink RX12 236 yX12_goOn, Cond.instanceMethod yX12_goOn, Cond.selects RX12 yX12_goOn yX12_goOn, Cond.code yX12_goOn cX12_goOn 3 (some .boolean), Cond.methodLink RX12 219 yX12_heapsIn, Cond.static yX12_heapsIn, Cond.code yX12_heapsIn cX12_heapsIn 4 (some .int), Cond.methodLink RX12 246 yX12_findHeapMiddles, Cond.instanceMethod yX12_findHeapMiddles, Cond.selects RX12 yX12_findHeapMiddles yX12_findHeapMiddles, Cond.code yX12_findHeapMiddles cX12_findHeapMiddles 3 none, Cond.fieldLink RX12 81 "VoiceHeapsModel" "heapMiddle" "[I"]
def wsX12_wrong : List Cond := .code yX12_wrong cX12_wrong 2 (some .int) :: ((wsX12_wrong_r1 ++ (wsX12_wrong_r2 ++ (wsX12_wrong_r3 ++ wsX12_wrong_r4))) ++ wsX120)
def wsX12_middle_r1 : List Cond := [Cond.fieldLink RX12 81 "VoiceHeapsModel" "heapMiddle" "[I", Cond.methodLink RX12 100 yX12_in, Cond.static yX12_in, Cond.initialized RX12, Cond.code yX12_in cX12_in 3 (some .boolean), Cond.methodLink RX12 249 yX12_wrong, Cond.instanceMethod yX12_wrong, Cond.selects RX12 yX12_wrong yX12_wrong, Cond.code yX12_wrong cX12_wrong 2 (some .int), Cond.fieldLink RX12 72 "VoiceHeapsModel" "best" "[I", Cond.fieldLink RX12 191 "VoiceHeapsModel" "pieces" "I", Cond.methodLink RX12 240 yX12_findBest, Cond.instanceMethod yX12_findBest, Cond.selects RX12 yX12_findBest yX12_findBest, Cond.code yX12_findBest cX12_findBest 5 (some .boolean), Cond.fieldLink RX12 69 "VoiceHeapsModel" "heap" "[I", Cond.fieldLink RX12 233 "VoiceHeapsModel" "bestWorth" "I", Cond.methodLink RX12 203 yX12_findPieces, Cond.instanceMethod yX12_findPieces, Cond.selects RX12 yX12_findPieces yX12_findPieces, Cond.code yX12_findPieces cX12_findPieces 3 none, Cond.fieldLink RX12 194 "VoiceHeapsModel" "stretches" "I", Cond.fieldLink RX12 188 "VoiceHeapsModel" "price" "I", Cond.fieldLink RX12 156 "VoiceHeapsModel" "rows" "I"]
def wsX12_middle_r2 : List Cond := [Cond.fieldLink RX12 45 "VoiceHeapsModel" "pieceOf" "[I", Cond.methodLink RX12 197 yX12_isHeard, Cond.instanceMethod yX12_isHeard, Cond.selects RX12 yX12_isHeard yX12_isHeard, Cond.code yX12_isHeard cX12_isHeard 3 (some .boolean), Cond.fieldLink RX12 17 "VoiceHeapsModel" "number" "[I", Cond.fieldLink RX12 20 "VoiceHeapsModel" "isDeaf" "[Z", Cond.fieldLink RX12 24 "VoiceHeapsModel" "isOut" "[Z", Cond.fieldLink RX12 7 "VoiceHeapsModel" "rule" "[I", Cond.methodLink RX12 200 yX12_cut, Cond.instanceMethod yX12_cut, Cond.selects RX12 yX12_cut yX12_cut, Cond.code yX12_cut cX12_cut 6 none, Cond.fieldLink RX12 63 "VoiceHeapsModel" "least" "[I", Cond.fieldLink RX12 66 "VoiceHeapsModel" "taken" "[I", Cond.fieldLink RX12 178 "VoiceHeapsModel" "apart" "I", Cond.fieldLink RX12 39 "VoiceHeapsModel" "first" "[I", Cond.fieldLink RX12 42 "VoiceHeapsModel" "many" "[I", Cond.fieldLink RX12 51 "VoiceHeapsModel" "spread" "[I", Cond.fieldLink RX12 48 "VoiceHeapsModel" "middle" "[I", Cond.fieldLink RX12 57 "VoiceHeapsModel" "mid" "[I", Cond.methodLink RX12 184 yX12_askRows, Cond.instanceMethod yX12_askRows, Cond.selects RX12 yX12_askRows yX12_askRows]
def wsX12_middle_r3 : List Cond := [Cond.code yX12_askRows cX12_askRows 4 none, Cond.fieldLink RX12 54 "VoiceHeapsModel" "isAsked" "[Z", Cond.methodLink RX12 181 yX12_findMiddle, Cond.instanceMethod yX12_findMiddle, Cond.selects RX12 yX12_findMiddle yX12_findMiddle, Cond.code yX12_findMiddle cX12_findMiddle 6 none, Cond.fieldLink RX12 60 "VoiceHeapsModel" "line" "[I", Cond.methodLink RX12 223 yX12_findGains, Cond.instanceMethod yX12_findGains, Cond.selects RX12 yX12_findGains yX12_findGains, Cond.code yX12_findGains cX12_findGains 3 none, Cond.fieldLink RX12 78 "VoiceHeapsModel" "gain" "[I", Cond.methodLink RX12 212 yX12_likeOf, Cond.instanceMethod yX12_likeOf, Cond.selects RX12 yX12_likeOf yX12_likeOf, Cond.code yX12_likeOf cX12_likeOf 5 (some .int), Cond.methodLink RX12 209 yX12_size, Cond.static yX12_size, Cond.code yX12_size cX12_size 1 (some .int), Cond.methodLink RX12 216 yX12_touch, Cond.instanceMethod yX12_touch, Cond.selects RX12 yX12_touch yX12_touch, Cond.code yX12_touch cX12_touch 4 (some .boolean), Cond.methodLink RX12 226 yX12_begin]
def wsX12_middle_r4 : List Cond := [Cond.instanceMethod yX12_begin, Cond.selects RX12 yX12_begin yX12_begin, Cond.code yX12_begin cX12_begin 2 none, Cond.methodLink RX12 229 yX12_worthOf, Cond.instanceMethod yX12_worthOf, Cond.selects RX12 yX12_worthOf yX12_worthOf, Cond.code yX12_worthOf cX12_worthOf 5 (some .int), Cond.methodLink RX12 236 yX12_goOn, Cond.instanceMethod yX12_goOn, Cond.selects RX12 yX12_goOn yX12_goOn, Cond.code yX12_goOn cX12_goOn 3 (some .boolean), Cond.methodLink RX12 219 yX12_heapsIn, Cond.static yX12_heapsIn, Cond.code yX12_heapsIn cX12_heapsIn 4 (some .int), Cond.methodLink RX12 246 yX12_findHeapMiddles, Cond.instanceMethod yX12_findHeapMiddles, Cond.selects RX12 yX12_findHeapMiddles yX12_findHeapMiddles, Cond.code yX12_findHeapMiddles cX12_findHeapMiddles 3 none]
def wsX12_middle : List Cond := .code yX12_middle cX12_middle 4 (some .int) :: ((wsX12_middle_r1 ++ (wsX12_middle_r2 ++ (wsX12_middle_r3 ++ wsX12_middle_r4))) ++ wsX120)
def wsX12_twice_r1 : List Cond := [Cond.fieldLink RX12 48 "VoiceHeapsModel" "middle" "[I", Cond.fieldLink RX12 81 "VoiceHeapsModel" "heapMiddle" "[I", Cond.fieldLink RX12 72 "VoiceHeapsModel" "best" "[I", Cond.fieldLink RX12 7 "VoiceHeapsModel" "rule" "[I", Cond.fieldLink RX12 191 "VoiceHeapsModel" "pieces" "I", Cond.methodLink RX12 203 yX12_findPieces, Cond.instanceMethod yX12_findPieces, Cond.selects RX12 yX12_findPieces yX12_findPieces, Cond.initialized RX12, Cond.code yX12_findPieces cX12_findPieces 3 none, Cond.fieldLink RX12 194 "VoiceHeapsModel" "stretches" "I", Cond.fieldLink RX12 188 "VoiceHeapsModel" "price" "I", Cond.fieldLink RX12 156 "VoiceHeapsModel" "rows" "I", Cond.fieldLink RX12 45 "VoiceHeapsModel" "pieceOf" "[I", Cond.methodLink RX12 197 yX12_isHeard, Cond.instanceMethod yX12_isHeard, Cond.selects RX12 yX12_isHeard yX12_isHeard, Cond.code yX12_isHeard cX12_isHeard 3 (some .boolean), Cond.fieldLink RX12 17 "VoiceHeapsModel" "number" "[I", Cond.fieldLink RX12 20 "VoiceHeapsModel" "isDeaf" "[Z", Cond.fieldLink RX12 24 "VoiceHeapsModel" "isOut" "[Z", Cond.methodLink RX12 200 yX12_cut, Cond.instanceMethod yX12_cut, Cond.selects RX12 yX12_cut yX12_cut]
def wsX12_twice_r2 : List Cond := [Cond.code yX12_cut cX12_cut 6 none, Cond.fieldLink RX12 63 "VoiceHeapsModel" "least" "[I", Cond.fieldLink RX12 66 "VoiceHeapsModel" "taken" "[I", Cond.fieldLink RX12 178 "VoiceHeapsModel" "apart" "I", Cond.fieldLink RX12 39 "VoiceHeapsModel" "first" "[I", Cond.fieldLink RX12 42 "VoiceHeapsModel" "many" "[I", Cond.fieldLink RX12 51 "VoiceHeapsModel" "spread" "[I", Cond.fieldLink RX12 57 "VoiceHeapsModel" "mid" "[I", Cond.methodLink RX12 184 yX12_askRows, Cond.instanceMethod yX12_askRows, Cond.selects RX12 yX12_askRows yX12_askRows, Cond.code yX12_askRows cX12_askRows 4 none, Cond.fieldLink RX12 54 "VoiceHeapsModel" "isAsked" "[Z", Cond.methodLink RX12 100 yX12_in, Cond.static yX12_in, Cond.code yX12_in cX12_in 3 (some .boolean), Cond.methodLink RX12 181 yX12_findMiddle, Cond.instanceMethod yX12_findMiddle, Cond.selects RX12 yX12_findMiddle yX12_findMiddle, Cond.code yX12_findMiddle cX12_findMiddle 6 none, Cond.fieldLink RX12 60 "VoiceHeapsModel" "line" "[I", Cond.methodLink RX12 206 yX12_isPiece, Cond.instanceMethod yX12_isPiece, Cond.selects RX12 yX12_isPiece yX12_isPiece]
def wsX12_twice_r3 : List Cond := [Cond.code yX12_isPiece cX12_isPiece 2 (some .boolean), Cond.methodLink RX12 240 yX12_findBest, Cond.instanceMethod yX12_findBest, Cond.selects RX12 yX12_findBest yX12_findBest, Cond.code yX12_findBest cX12_findBest 5 (some .boolean), Cond.fieldLink RX12 69 "VoiceHeapsModel" "heap" "[I", Cond.fieldLink RX12 233 "VoiceHeapsModel" "bestWorth" "I", Cond.methodLink RX12 223 yX12_findGains, Cond.instanceMethod yX12_findGains, Cond.selects RX12 yX12_findGains yX12_findGains, Cond.code yX12_findGains cX12_findGains 3 none, Cond.fieldLink RX12 78 "VoiceHeapsModel" "gain" "[I", Cond.methodLink RX12 212 yX12_likeOf, Cond.instanceMethod yX12_likeOf, Cond.selects RX12 yX12_likeOf yX12_likeOf, Cond.code yX12_likeOf cX12_likeOf 5 (some .int), Cond.methodLink RX12 209 yX12_size, Cond.static yX12_size, Cond.code yX12_size cX12_size 1 (some .int), Cond.methodLink RX12 216 yX12_touch, Cond.instanceMethod yX12_touch, Cond.selects RX12 yX12_touch yX12_touch, Cond.code yX12_touch cX12_touch 4 (some .boolean), Cond.methodLink RX12 226 yX12_begin]
def wsX12_twice_r4 : List Cond := [Cond.instanceMethod yX12_begin, Cond.selects RX12 yX12_begin yX12_begin, Cond.code yX12_begin cX12_begin 2 none, Cond.methodLink RX12 229 yX12_worthOf, Cond.instanceMethod yX12_worthOf, Cond.selects RX12 yX12_worthOf yX12_worthOf, Cond.code yX12_worthOf cX12_worthOf 5 (some .int), Cond.methodLink RX12 236 yX12_goOn, Cond.instanceMethod yX12_goOn, Cond.selects RX12 yX12_goOn yX12_goOn, Cond.code yX12_goOn cX12_goOn 3 (some .boolean), Cond.methodLink RX12 219 yX12_heapsIn, Cond.static yX12_heapsIn, Cond.code yX12_heapsIn cX12_heapsIn 4 (some .int), Cond.methodLink RX12 246 yX12_findHeapMiddles, Cond.instanceMethod yX12_findHeapMiddles, Cond.selects RX12 yX12_findHeapMiddles yX12_findHeapMiddles, Cond.code yX12_findHeapMiddles cX12_findHeapMiddles 3 none]
def wsX12_twice : List Cond := .code yX12_twice cX12_twice 13 (some .int) :: ((wsX12_twice_r1 ++ (wsX12_twice_r2 ++ (wsX12_twice_r3 ++ wsX12_twice_r4))) ++ wsX120)
def wsX12_keep_r1 : List Cond := [Cond.fieldLink RX12 252 "VoiceHeapsModel" "kept" "I", Cond.fieldLink RX12 84 "VoiceHeapsModel" "name" "[I", Cond.fieldLink RX12 87 "VoiceHeapsModel" "voice" "[I", Cond.fieldLink RX12 81 "VoiceHeapsModel" "heapMiddle" "[I", Cond.methodLink RX12 100 yX12_in, Cond.static yX12_in, Cond.initialized RX12, Cond.code yX12_in cX12_in 3 (some .boolean), Cond.methodLink RX12 249 yX12_wrong, Cond.instanceMethod yX12_wrong, Cond.selects RX12 yX12_wrong yX12_wrong, Cond.code yX12_wrong cX12_wrong 2 (some .int), Cond.fieldLink RX12 72 "VoiceHeapsModel" "best" "[I", Cond.fieldLink RX12 191 "VoiceHeapsModel" "pieces" "I", Cond.methodLink RX12 240 yX12_findBest, Cond.instanceMethod yX12_findBest, Cond.selects RX12 yX12_findBest yX12_findBest, Cond.code yX12_findBest cX12_findBest 5 (some .boolean), Cond.fieldLink RX12 69 "VoiceHeapsModel" "heap" "[I", Cond.fieldLink RX12 233 "VoiceHeapsModel" "bestWorth" "I", Cond.methodLink RX12 203 yX12_findPieces, Cond.instanceMethod yX12_findPieces, Cond.selects RX12 yX12_findPieces yX12_findPieces, Cond.code yX12_findPieces cX12_findPieces 3 none]
def wsX12_keep_r2 : List Cond := [Cond.fieldLink RX12 194 "VoiceHeapsModel" "stretches" "I", Cond.fieldLink RX12 188 "VoiceHeapsModel" "price" "I", Cond.fieldLink RX12 156 "VoiceHeapsModel" "rows" "I", Cond.fieldLink RX12 45 "VoiceHeapsModel" "pieceOf" "[I", Cond.methodLink RX12 197 yX12_isHeard, Cond.instanceMethod yX12_isHeard, Cond.selects RX12 yX12_isHeard yX12_isHeard, Cond.code yX12_isHeard cX12_isHeard 3 (some .boolean), Cond.fieldLink RX12 17 "VoiceHeapsModel" "number" "[I", Cond.fieldLink RX12 20 "VoiceHeapsModel" "isDeaf" "[Z", Cond.fieldLink RX12 24 "VoiceHeapsModel" "isOut" "[Z", Cond.fieldLink RX12 7 "VoiceHeapsModel" "rule" "[I", Cond.methodLink RX12 200 yX12_cut, Cond.instanceMethod yX12_cut, Cond.selects RX12 yX12_cut yX12_cut, Cond.code yX12_cut cX12_cut 6 none, Cond.fieldLink RX12 63 "VoiceHeapsModel" "least" "[I", Cond.fieldLink RX12 66 "VoiceHeapsModel" "taken" "[I", Cond.fieldLink RX12 178 "VoiceHeapsModel" "apart" "I", Cond.fieldLink RX12 39 "VoiceHeapsModel" "first" "[I", Cond.fieldLink RX12 42 "VoiceHeapsModel" "many" "[I", Cond.fieldLink RX12 51 "VoiceHeapsModel" "spread" "[I", Cond.fieldLink RX12 48 "VoiceHeapsModel" "middle" "[I", Cond.fieldLink RX12 57 "VoiceHeapsModel" "mid" "[I"]
def wsX12_keep_r3 : List Cond := [Cond.methodLink RX12 184 yX12_askRows, Cond.instanceMethod yX12_askRows, Cond.selects RX12 yX12_askRows yX12_askRows, Cond.code yX12_askRows cX12_askRows 4 none, Cond.fieldLink RX12 54 "VoiceHeapsModel" "isAsked" "[Z", Cond.methodLink RX12 181 yX12_findMiddle, Cond.instanceMethod yX12_findMiddle, Cond.selects RX12 yX12_findMiddle yX12_findMiddle, Cond.code yX12_findMiddle cX12_findMiddle 6 none, Cond.fieldLink RX12 60 "VoiceHeapsModel" "line" "[I", Cond.methodLink RX12 223 yX12_findGains, Cond.instanceMethod yX12_findGains, Cond.selects RX12 yX12_findGains yX12_findGains, Cond.code yX12_findGains cX12_findGains 3 none, Cond.fieldLink RX12 78 "VoiceHeapsModel" "gain" "[I", Cond.methodLink RX12 212 yX12_likeOf, Cond.instanceMethod yX12_likeOf, Cond.selects RX12 yX12_likeOf yX12_likeOf, Cond.code yX12_likeOf cX12_likeOf 5 (some .int), Cond.methodLink RX12 209 yX12_size, Cond.static yX12_size, Cond.code yX12_size cX12_size 1 (some .int), Cond.methodLink RX12 216 yX12_touch, Cond.instanceMethod yX12_touch]
def wsX12_keep_r4 : List Cond := [Cond.selects RX12 yX12_touch yX12_touch, Cond.code yX12_touch cX12_touch 4 (some .boolean), Cond.methodLink RX12 226 yX12_begin, Cond.instanceMethod yX12_begin, Cond.selects RX12 yX12_begin yX12_begin, Cond.code yX12_begin cX12_begin 2 none, Cond.methodLink RX12 229 yX12_worthOf, Cond.instanceMethod yX12_worthOf, Cond.selects RX12 yX12_worthOf yX12_worthOf, Cond.code yX12_worthOf cX12_worthOf 5 (some .int), Cond.methodLink RX12 236 yX12_goOn, Cond.instanceMethod yX12_goOn, Cond.selects RX12 yX12_goOn yX12_goOn, Cond.code yX12_goOn cX12_goOn 3 (some .boolean), Cond.methodLink RX12 219 yX12_heapsIn, Cond.static yX12_heapsIn, Cond.code yX12_heapsIn cX12_heapsIn 4 (some .int), Cond.methodLink RX12 246 yX12_findHeapMiddles, Cond.instanceMethod yX12_findHeapMiddles, Cond.selects RX12 yX12_findHeapMiddles yX12_findHeapMiddles, Cond.code yX12_findHeapMiddles cX12_findHeapMiddles 3 none]
def wsX12_keep : List Cond := .code yX12_keep cX12_keep 5 (some .int) :: ((wsX12_keep_r1 ++ (wsX12_keep_r2 ++ (wsX12_keep_r3 ++ wsX12_keep_r4))) ++ wsX120)
def wsX12_forget : List Cond := .code yX12_forget cX12_forget 5 (some .int) :: ([.fieldLink RX12 252 "VoiceHeapsModel" "kept" "I", .fieldLink RX12 84 "VoiceHeapsModel" "name" "[I", .fieldLink RX12 87 "VoiceHeapsModel" "voice" "[I", .methodLink RX12 100 yX12_in, .static yX12_in, .initialized RX12, .code yX12_in cX12_in 3 (some .boolean)] ++ wsX120)
def wsX12_back_r1 : List Cond := [Cond.fieldLink RX12 7 "VoiceHeapsModel" "rule" "[I", Cond.fieldLink RX12 252 "VoiceHeapsModel" "kept" "I", Cond.fieldLink RX12 81 "VoiceHeapsModel" "heapMiddle" "[I", Cond.fieldLink RX12 87 "VoiceHeapsModel" "voice" "[I", Cond.fieldLink RX12 84 "VoiceHeapsModel" "name" "[I", Cond.methodLink RX12 100 yX12_in, Cond.static yX12_in, Cond.initialized RX12, Cond.code yX12_in cX12_in 3 (some .boolean), Cond.methodLink RX12 249 yX12_wrong, Cond.instanceMethod yX12_wrong, Cond.selects RX12 yX12_wrong yX12_wrong, Cond.code yX12_wrong cX12_wrong 2 (some .int), Cond.fieldLink RX12 72 "VoiceHeapsModel" "best" "[I", Cond.fieldLink RX12 191 "VoiceHeapsModel" "pieces" "I", Cond.methodLink RX12 240 yX12_findBest, Cond.instanceMethod yX12_findBest, Cond.selects RX12 yX12_findBest yX12_findBest, Cond.code yX12_findBest cX12_findBest 5 (some .boolean), Cond.fieldLink RX12 69 "VoiceHeapsModel" "heap" "[I", Cond.fieldLink RX12 233 "VoiceHeapsModel" "bestWorth" "I", Cond.methodLink RX12 203 yX12_findPieces, Cond.instanceMethod yX12_findPieces, Cond.selects RX12 yX12_findPieces yX12_findPieces]
def wsX12_back_r2 : List Cond := [Cond.code yX12_findPieces cX12_findPieces 3 none, Cond.fieldLink RX12 194 "VoiceHeapsModel" "stretches" "I", Cond.fieldLink RX12 188 "VoiceHeapsModel" "price" "I", Cond.fieldLink RX12 156 "VoiceHeapsModel" "rows" "I", Cond.fieldLink RX12 45 "VoiceHeapsModel" "pieceOf" "[I", Cond.methodLink RX12 197 yX12_isHeard, Cond.instanceMethod yX12_isHeard, Cond.selects RX12 yX12_isHeard yX12_isHeard, Cond.code yX12_isHeard cX12_isHeard 3 (some .boolean), Cond.fieldLink RX12 17 "VoiceHeapsModel" "number" "[I", Cond.fieldLink RX12 20 "VoiceHeapsModel" "isDeaf" "[Z", Cond.fieldLink RX12 24 "VoiceHeapsModel" "isOut" "[Z", Cond.methodLink RX12 200 yX12_cut, Cond.instanceMethod yX12_cut, Cond.selects RX12 yX12_cut yX12_cut, Cond.code yX12_cut cX12_cut 6 none, Cond.fieldLink RX12 63 "VoiceHeapsModel" "least" "[I", Cond.fieldLink RX12 66 "VoiceHeapsModel" "taken" "[I", Cond.fieldLink RX12 178 "VoiceHeapsModel" "apart" "I", Cond.fieldLink RX12 39 "VoiceHeapsModel" "first" "[I", Cond.fieldLink RX12 42 "VoiceHeapsModel" "many" "[I", Cond.fieldLink RX12 51 "VoiceHeapsModel" "spread" "[I", Cond.fieldLink RX12 48 "VoiceHeapsModel" "middle" "[I", Cond.fieldLink RX12 57 "VoiceHeapsModel" "mid" "[I"]
def wsX12_back_r3 : List Cond := [Cond.methodLink RX12 184 yX12_askRows, Cond.instanceMethod yX12_askRows, Cond.selects RX12 yX12_askRows yX12_askRows, Cond.code yX12_askRows cX12_askRows 4 none, Cond.fieldLink RX12 54 "VoiceHeapsModel" "isAsked" "[Z", Cond.methodLink RX12 181 yX12_findMiddle, Cond.instanceMethod yX12_findMiddle, Cond.selects RX12 yX12_findMiddle yX12_findMiddle, Cond.code yX12_findMiddle cX12_findMiddle 6 none, Cond.fieldLink RX12 60 "VoiceHeapsModel" "line" "[I", Cond.methodLink RX12 223 yX12_findGains, Cond.instanceMethod yX12_findGains, Cond.selects RX12 yX12_findGains yX12_findGains, Cond.code yX12_findGains cX12_findGains 3 none, Cond.fieldLink RX12 78 "VoiceHeapsModel" "gain" "[I", Cond.methodLink RX12 212 yX12_likeOf, Cond.instanceMethod yX12_likeOf, Cond.selects RX12 yX12_likeOf yX12_likeOf, Cond.code yX12_likeOf cX12_likeOf 5 (some .int), Cond.methodLink RX12 209 yX12_size, Cond.static yX12_size, Cond.code yX12_size cX12_size 1 (some .int), Cond.methodLink RX12 216 yX12_touch, Cond.instanceMethod yX12_touch]
def wsX12_back_r4 : List Cond := [Cond.selects RX12 yX12_touch yX12_touch, Cond.code yX12_touch cX12_touch 4 (some .boolean), Cond.methodLink RX12 226 yX12_begin, Cond.instanceMethod yX12_begin, Cond.selects RX12 yX12_begin yX12_begin, Cond.code yX12_begin cX12_begin 2 none, Cond.methodLink RX12 229 yX12_worthOf, Cond.instanceMethod yX12_worthOf, Cond.selects RX12 yX12_worthOf yX12_worthOf, Cond.code yX12_worthOf cX12_worthOf 5 (some .int), Cond.methodLink RX12 236 yX12_goOn, Cond.instanceMethod yX12_goOn, Cond.selects RX12 yX12_goOn yX12_goOn, Cond.code yX12_goOn cX12_goOn 3 (some .boolean), Cond.methodLink RX12 219 yX12_heapsIn, Cond.static yX12_heapsIn, Cond.code yX12_heapsIn cX12_heapsIn 4 (some .int), Cond.methodLink RX12 246 yX12_findHeapMiddles, Cond.instanceMethod yX12_findHeapMiddles, Cond.selects RX12 yX12_findHeapMiddles yX12_findHeapMiddles, Cond.code yX12_findHeapMiddles cX12_findHeapMiddles 3 none]
def wsX12_back : List Cond := .code yX12_back cX12_back 9 (some .int) :: ((wsX12_back_r1 ++ (wsX12_back_r2 ++ (wsX12_back_r3 ++ wsX12_back_r4))) ++ wsX120)
def wsX12_bitsIn : List Cond := .code yX12_bitsIn cX12_bitsIn 3 (some .int) :: ([])
def wsX12_offsOf : List Cond := .code yX12_offsOf cX12_offsOf 6 (some .int) :: ([.fieldLink RX12 191 "VoiceHeapsModel" "pieces" "I", .fieldLink RX12 48 "VoiceHeapsModel" "middle" "[I", .fieldLink RX12 87 "VoiceHeapsModel" "voice" "[I", .methodLink RX12 209 yX12_size, .static yX12_size, .initialized RX12, .code yX12_size cX12_size 1 (some .int)] ++ wsX120)
def wsX12_odds_r1 : List Cond := [Cond.fieldLink RX12 252 "VoiceHeapsModel" "kept" "I", Cond.fieldLink RX12 191 "VoiceHeapsModel" "pieces" "I", Cond.fieldLink RX12 72 "VoiceHeapsModel" "best" "[I", Cond.methodLink RX12 100 yX12_in, Cond.static yX12_in, Cond.initialized RX12, Cond.code yX12_in cX12_in 3 (some .boolean), Cond.methodLink RX12 249 yX12_wrong, Cond.instanceMethod yX12_wrong, Cond.selects RX12 yX12_wrong yX12_wrong, Cond.code yX12_wrong cX12_wrong 2 (some .int), Cond.methodLink RX12 240 yX12_findBest, Cond.instanceMethod yX12_findBest, Cond.selects RX12 yX12_findBest yX12_findBest, Cond.code yX12_findBest cX12_findBest 5 (some .boolean), Cond.fieldLink RX12 69 "VoiceHeapsModel" "heap" "[I", Cond.fieldLink RX12 233 "VoiceHeapsModel" "bestWorth" "I", Cond.methodLink RX12 203 yX12_findPieces, Cond.instanceMethod yX12_findPieces, Cond.selects RX12 yX12_findPieces yX12_findPieces, Cond.code yX12_findPieces cX12_findPieces 3 none, Cond.fieldLink RX12 194 "VoiceHeapsModel" "stretches" "I", Cond.fieldLink RX12 188 "VoiceHeapsModel" "price" "I", Cond.fieldLink RX12 156 "VoiceHeapsModel" "rows" "I"]
def wsX12_odds_r2 : List Cond := [Cond.fieldLink RX12 45 "VoiceHeapsModel" "pieceOf" "[I", Cond.methodLink RX12 197 yX12_isHeard, Cond.instanceMethod yX12_isHeard, Cond.selects RX12 yX12_isHeard yX12_isHeard, Cond.code yX12_isHeard cX12_isHeard 3 (some .boolean), Cond.fieldLink RX12 17 "VoiceHeapsModel" "number" "[I", Cond.fieldLink RX12 20 "VoiceHeapsModel" "isDeaf" "[Z", Cond.fieldLink RX12 24 "VoiceHeapsModel" "isOut" "[Z", Cond.fieldLink RX12 7 "VoiceHeapsModel" "rule" "[I", Cond.methodLink RX12 200 yX12_cut, Cond.instanceMethod yX12_cut, Cond.selects RX12 yX12_cut yX12_cut, Cond.code yX12_cut cX12_cut 6 none, Cond.fieldLink RX12 63 "VoiceHeapsModel" "least" "[I", Cond.fieldLink RX12 66 "VoiceHeapsModel" "taken" "[I", Cond.fieldLink RX12 178 "VoiceHeapsModel" "apart" "I", Cond.fieldLink RX12 39 "VoiceHeapsModel" "first" "[I", Cond.fieldLink RX12 42 "VoiceHeapsModel" "many" "[I", Cond.fieldLink RX12 51 "VoiceHeapsModel" "spread" "[I", Cond.fieldLink RX12 48 "VoiceHeapsModel" "middle" "[I", Cond.fieldLink RX12 57 "VoiceHeapsModel" "mid" "[I", Cond.methodLink RX12 184 yX12_askRows, Cond.instanceMethod yX12_askRows, Cond.selects RX12 yX12_askRows yX12_askRows]
def wsX12_odds_r3 : List Cond := [Cond.code yX12_askRows cX12_askRows 4 none, Cond.fieldLink RX12 54 "VoiceHeapsModel" "isAsked" "[Z", Cond.methodLink RX12 181 yX12_findMiddle, Cond.instanceMethod yX12_findMiddle, Cond.selects RX12 yX12_findMiddle yX12_findMiddle, Cond.code yX12_findMiddle cX12_findMiddle 6 none, Cond.fieldLink RX12 60 "VoiceHeapsModel" "line" "[I", Cond.methodLink RX12 223 yX12_findGains, Cond.instanceMethod yX12_findGains, Cond.selects RX12 yX12_findGains yX12_findGains, Cond.code yX12_findGains cX12_findGains 3 none, Cond.fieldLink RX12 78 "VoiceHeapsModel" "gain" "[I", Cond.methodLink RX12 212 yX12_likeOf, Cond.instanceMethod yX12_likeOf, Cond.selects RX12 yX12_likeOf yX12_likeOf, Cond.code yX12_likeOf cX12_likeOf 5 (some .int), Cond.methodLink RX12 209 yX12_size, Cond.static yX12_size, Cond.code yX12_size cX12_size 1 (some .int), Cond.methodLink RX12 216 yX12_touch, Cond.instanceMethod yX12_touch, Cond.selects RX12 yX12_touch yX12_touch, Cond.code yX12_touch cX12_touch 4 (some .boolean), Cond.methodLink RX12 226 yX12_begin]
def wsX12_odds_r4 : List Cond := [Cond.instanceMethod yX12_begin, Cond.selects RX12 yX12_begin yX12_begin, Cond.code yX12_begin cX12_begin 2 none, Cond.methodLink RX12 229 yX12_worthOf, Cond.instanceMethod yX12_worthOf, Cond.selects RX12 yX12_worthOf yX12_worthOf, Cond.code yX12_worthOf cX12_worthOf 5 (some .int), Cond.methodLink RX12 236 yX12_goOn, Cond.instanceMethod yX12_goOn, Cond.selects RX12 yX12_goOn yX12_goOn, Cond.code yX12_goOn cX12_goOn 3 (some .boolean), Cond.methodLink RX12 219 yX12_heapsIn, Cond.static yX12_heapsIn, Cond.code yX12_heapsIn cX12_heapsIn 4 (some .int), Cond.methodLink RX12 246 yX12_findHeapMiddles, Cond.instanceMethod yX12_findHeapMiddles, Cond.selects RX12 yX12_findHeapMiddles yX12_findHeapMiddles, Cond.code yX12_findHeapMiddles cX12_findHeapMiddles 3 none, Cond.fieldLink RX12 81 "VoiceHeapsModel" "heapMiddle" "[I", Cond.methodLink RX12 255 yX12_bitsIn, Cond.static yX12_bitsIn, Cond.code yX12_bitsIn cX12_bitsIn 3 (some .int), Cond.methodLink RX12 258 yX12_offsOf, Cond.instanceMethod yX12_offsOf]
def wsX12_odds_r5 : List Cond := [Cond.selects RX12 yX12_offsOf yX12_offsOf, Cond.code yX12_offsOf cX12_offsOf 6 (some .int), Cond.fieldLink RX12 87 "VoiceHeapsModel" "voice" "[I"]
def wsX12_odds : List Cond := .code yX12_odds cX12_odds 9 (some .int) :: ((wsX12_odds_r1 ++ (wsX12_odds_r2 ++ (wsX12_odds_r3 ++ (wsX12_odds_r4 ++ wsX12_odds_r5)))) ++ wsX120)
def wsX12_heapOfRow : List Cond := .code yX12_heapOfRow cX12_heapOfRow 2 (some .int) :: ([.fieldLink RX12 45 "VoiceHeapsModel" "pieceOf" "[I", .fieldLink RX12 72 "VoiceHeapsModel" "best" "[I"] ++ wsX120)
def wsX12_show_r1 : List Cond := [Cond.fieldLink RX12 156 "VoiceHeapsModel" "rows" "I", Cond.fieldLink RX12 36 "VoiceHeapsModel" "shownHeap" "[I", Cond.fieldLink RX12 264 "VoiceHeapsModel" "shown" "I", Cond.fieldLink RX12 174 "VoiceHeapsModel" "isShown" "Z", Cond.methodLink RX12 240 yX12_findBest, Cond.instanceMethod yX12_findBest, Cond.selects RX12 yX12_findBest yX12_findBest, Cond.initialized RX12, Cond.code yX12_findBest cX12_findBest 5 (some .boolean), Cond.fieldLink RX12 191 "VoiceHeapsModel" "pieces" "I", Cond.fieldLink RX12 69 "VoiceHeapsModel" "heap" "[I", Cond.fieldLink RX12 233 "VoiceHeapsModel" "bestWorth" "I", Cond.fieldLink RX12 72 "VoiceHeapsModel" "best" "[I", Cond.methodLink RX12 203 yX12_findPieces, Cond.instanceMethod yX12_findPieces, Cond.selects RX12 yX12_findPieces yX12_findPieces, Cond.code yX12_findPieces cX12_findPieces 3 none, Cond.fieldLink RX12 194 "VoiceHeapsModel" "stretches" "I", Cond.fieldLink RX12 188 "VoiceHeapsModel" "price" "I", Cond.fieldLink RX12 45 "VoiceHeapsModel" "pieceOf" "[I", Cond.methodLink RX12 197 yX12_isHeard, Cond.instanceMethod yX12_isHeard, Cond.selects RX12 yX12_isHeard yX12_isHeard, Cond.code yX12_isHeard cX12_isHeard 3 (some .boolean)]
def wsX12_show_r2 : List Cond := [Cond.fieldLink RX12 17 "VoiceHeapsModel" "number" "[I", Cond.fieldLink RX12 20 "VoiceHeapsModel" "isDeaf" "[Z", Cond.fieldLink RX12 24 "VoiceHeapsModel" "isOut" "[Z", Cond.fieldLink RX12 7 "VoiceHeapsModel" "rule" "[I", Cond.methodLink RX12 200 yX12_cut, Cond.instanceMethod yX12_cut, Cond.selects RX12 yX12_cut yX12_cut, Cond.code yX12_cut cX12_cut 6 none, Cond.fieldLink RX12 63 "VoiceHeapsModel" "least" "[I", Cond.fieldLink RX12 66 "VoiceHeapsModel" "taken" "[I", Cond.fieldLink RX12 178 "VoiceHeapsModel" "apart" "I", Cond.fieldLink RX12 39 "VoiceHeapsModel" "first" "[I", Cond.fieldLink RX12 42 "VoiceHeapsModel" "many" "[I", Cond.fieldLink RX12 51 "VoiceHeapsModel" "spread" "[I", Cond.fieldLink RX12 48 "VoiceHeapsModel" "middle" "[I", Cond.fieldLink RX12 57 "VoiceHeapsModel" "mid" "[I", Cond.methodLink RX12 184 yX12_askRows, Cond.instanceMethod yX12_askRows, Cond.selects RX12 yX12_askRows yX12_askRows, Cond.code yX12_askRows cX12_askRows 4 none, Cond.fieldLink RX12 54 "VoiceHeapsModel" "isAsked" "[Z", Cond.methodLink RX12 100 yX12_in, Cond.static yX12_in, Cond.code yX12_in cX12_in 3 (some .boolean)]
def wsX12_show_r3 : List Cond := [Cond.methodLink RX12 181 yX12_findMiddle, Cond.instanceMethod yX12_findMiddle, Cond.selects RX12 yX12_findMiddle yX12_findMiddle, Cond.code yX12_findMiddle cX12_findMiddle 6 none, Cond.fieldLink RX12 60 "VoiceHeapsModel" "line" "[I", Cond.methodLink RX12 223 yX12_findGains, Cond.instanceMethod yX12_findGains, Cond.selects RX12 yX12_findGains yX12_findGains, Cond.code yX12_findGains cX12_findGains 3 none, Cond.fieldLink RX12 78 "VoiceHeapsModel" "gain" "[I", Cond.methodLink RX12 212 yX12_likeOf, Cond.instanceMethod yX12_likeOf, Cond.selects RX12 yX12_likeOf yX12_likeOf, Cond.code yX12_likeOf cX12_likeOf 5 (some .int), Cond.methodLink RX12 209 yX12_size, Cond.static yX12_size, Cond.code yX12_size cX12_size 1 (some .int), Cond.methodLink RX12 216 yX12_touch, Cond.instanceMethod yX12_touch, Cond.selects RX12 yX12_touch yX12_touch, Cond.code yX12_touch cX12_touch 4 (some .boolean), Cond.methodLink RX12 226 yX12_begin, Cond.instanceMethod yX12_begin, Cond.selects RX12 yX12_begin yX12_begin]
def wsX12_show_r4 : List Cond := [Cond.code yX12_begin cX12_begin 2 none, Cond.methodLink RX12 229 yX12_worthOf, Cond.instanceMethod yX12_worthOf, Cond.selects RX12 yX12_worthOf yX12_worthOf, Cond.code yX12_worthOf cX12_worthOf 5 (some .int), Cond.methodLink RX12 236 yX12_goOn, Cond.instanceMethod yX12_goOn, Cond.selects RX12 yX12_goOn yX12_goOn, Cond.code yX12_goOn cX12_goOn 3 (some .boolean), Cond.methodLink RX12 219 yX12_heapsIn, Cond.static yX12_heapsIn, Cond.code yX12_heapsIn cX12_heapsIn 4 (some .int), Cond.methodLink RX12 261 yX12_heapOfRow, Cond.instanceMethod yX12_heapOfRow, Cond.selects RX12 yX12_heapOfRow yX12_heapOfRow, Cond.code yX12_heapOfRow cX12_heapOfRow 2 (some .int)]
def wsX12_show : List Cond := .code yX12_show cX12_show 2 (some .int) :: ((wsX12_show_r1 ++ (wsX12_show_r2 ++ (wsX12_show_r3 ++ wsX12_show_r4))) ++ wsX120)
def wsX12_otherwise_r1 : List Cond := [Cond.fieldLink RX12 174 "VoiceHeapsModel" "isShown" "Z", Cond.fieldLink RX12 264 "VoiceHeapsModel" "shown" "I", Cond.fieldLink RX12 156 "VoiceHeapsModel" "rows" "I", Cond.fieldLink RX12 36 "VoiceHeapsModel" "shownHeap" "[I", Cond.methodLink RX12 240 yX12_findBest, Cond.instanceMethod yX12_findBest, Cond.selects RX12 yX12_findBest yX12_findBest, Cond.initialized RX12, Cond.code yX12_findBest cX12_findBest 5 (some .boolean), Cond.fieldLink RX12 191 "VoiceHeapsModel" "pieces" "I", Cond.fieldLink RX12 69 "VoiceHeapsModel" "heap" "[I", Cond.fieldLink RX12 233 "VoiceHeapsModel" "bestWorth" "I", Cond.fieldLink RX12 72 "VoiceHeapsModel" "best" "[I", Cond.methodLink RX12 203 yX12_findPieces, Cond.instanceMethod yX12_findPieces, Cond.selects RX12 yX12_findPieces yX12_findPieces, Cond.code yX12_findPieces cX12_findPieces 3 none, Cond.fieldLink RX12 194 "VoiceHeapsModel" "stretches" "I", Cond.fieldLink RX12 188 "VoiceHeapsModel" "price" "I", Cond.fieldLink RX12 45 "VoiceHeapsModel" "pieceOf" "[I", Cond.methodLink RX12 197 yX12_isHeard, Cond.instanceMethod yX12_isHeard, Cond.selects RX12 yX12_isHeard yX12_isHeard, Cond.code yX12_isHeard cX12_isHeard 3 (some .boolean)]
def wsX12_otherwise_r2 : List Cond := [Cond.fieldLink RX12 17 "VoiceHeapsModel" "number" "[I", Cond.fieldLink RX12 20 "VoiceHeapsModel" "isDeaf" "[Z", Cond.fieldLink RX12 24 "VoiceHeapsModel" "isOut" "[Z", Cond.fieldLink RX12 7 "VoiceHeapsModel" "rule" "[I", Cond.methodLink RX12 200 yX12_cut, Cond.instanceMethod yX12_cut, Cond.selects RX12 yX12_cut yX12_cut, Cond.code yX12_cut cX12_cut 6 none, Cond.fieldLink RX12 63 "VoiceHeapsModel" "least" "[I", Cond.fieldLink RX12 66 "VoiceHeapsModel" "taken" "[I", Cond.fieldLink RX12 178 "VoiceHeapsModel" "apart" "I", Cond.fieldLink RX12 39 "VoiceHeapsModel" "first" "[I", Cond.fieldLink RX12 42 "VoiceHeapsModel" "many" "[I", Cond.fieldLink RX12 51 "VoiceHeapsModel" "spread" "[I", Cond.fieldLink RX12 48 "VoiceHeapsModel" "middle" "[I", Cond.fieldLink RX12 57 "VoiceHeapsModel" "mid" "[I", Cond.methodLink RX12 184 yX12_askRows, Cond.instanceMethod yX12_askRows, Cond.selects RX12 yX12_askRows yX12_askRows, Cond.code yX12_askRows cX12_askRows 4 none, Cond.fieldLink RX12 54 "VoiceHeapsModel" "isAsked" "[Z", Cond.methodLink RX12 100 yX12_in, Cond.static yX12_in, Cond.code yX12_in cX12_in 3 (some .boolean)]
def wsX12_otherwise_r3 : List Cond := [Cond.methodLink RX12 181 yX12_findMiddle, Cond.instanceMethod yX12_findMiddle, Cond.selects RX12 yX12_findMiddle yX12_findMiddle, Cond.code yX12_findMiddle cX12_findMiddle 6 none, Cond.fieldLink RX12 60 "VoiceHeapsModel" "line" "[I", Cond.methodLink RX12 223 yX12_findGains, Cond.instanceMethod yX12_findGains, Cond.selects RX12 yX12_findGains yX12_findGains, Cond.code yX12_findGains cX12_findGains 3 none, Cond.fieldLink RX12 78 "VoiceHeapsModel" "gain" "[I", Cond.methodLink RX12 212 yX12_likeOf, Cond.instanceMethod yX12_likeOf, Cond.selects RX12 yX12_likeOf yX12_likeOf, Cond.code yX12_likeOf cX12_likeOf 5 (some .int), Cond.methodLink RX12 209 yX12_size, Cond.static yX12_size, Cond.code yX12_size cX12_size 1 (some .int), Cond.methodLink RX12 216 yX12_touch, Cond.instanceMethod yX12_touch, Cond.selects RX12 yX12_touch yX12_touch, Cond.code yX12_touch cX12_touch 4 (some .boolean), Cond.methodLink RX12 226 yX12_begin, Cond.instanceMethod yX12_begin, Cond.selects RX12 yX12_begin yX12_begin]
def wsX12_otherwise_r4 : List Cond := [Cond.code yX12_begin cX12_begin 2 none, Cond.methodLink RX12 229 yX12_worthOf, Cond.instanceMethod yX12_worthOf, Cond.selects RX12 yX12_worthOf yX12_worthOf, Cond.code yX12_worthOf cX12_worthOf 5 (some .int), Cond.methodLink RX12 236 yX12_goOn, Cond.instanceMethod yX12_goOn, Cond.selects RX12 yX12_goOn yX12_goOn, Cond.code yX12_goOn cX12_goOn 3 (some .boolean), Cond.methodLink RX12 219 yX12_heapsIn, Cond.static yX12_heapsIn, Cond.code yX12_heapsIn cX12_heapsIn 4 (some .int), Cond.methodLink RX12 261 yX12_heapOfRow, Cond.instanceMethod yX12_heapOfRow, Cond.selects RX12 yX12_heapOfRow yX12_heapOfRow, Cond.code yX12_heapOfRow cX12_heapOfRow 2 (some .int)]
def wsX12_otherwise : List Cond := .code yX12_otherwise cX12_otherwise 3 (some .int) :: ((wsX12_otherwise_r1 ++ (wsX12_otherwise_r2 ++ (wsX12_otherwise_r3 ++ wsX12_otherwise_r4))) ++ wsX120)
def wsX12_word : List Cond := .code yX12_word cX12_word 3 (some .int) :: ([.fieldLink RX12 171 "VoiceHeapsModel" "words" "I", .fieldLink RX12 30 "VoiceHeapsModel" "wordFrom" "[I", .fieldLink RX12 33 "VoiceHeapsModel" "wordTo" "[I", .methodLink RX12 167 yX12_areRows, .instanceMethod yX12_areRows, .selects RX12 yX12_areRows yX12_areRows, .initialized RX12, .code yX12_areRows cX12_areRows 3 (some .boolean), .fieldLink RX12 156 "VoiceHeapsModel" "rows" "I", .methodLink RX12 163 yX12_isRow, .instanceMethod yX12_isRow, .selects RX12 yX12_isRow yX12_isRow, .code yX12_isRow cX12_isRow 2 (some .boolean), .methodLink RX12 100 yX12_in, .static yX12_in, .code yX12_in cX12_in 3 (some .boolean)] ++ wsX120)
def wsX12_hung_r1 : List Cond := [Cond.fieldLink RX12 171 "VoiceHeapsModel" "words" "I", Cond.fieldLink RX12 191 "VoiceHeapsModel" "pieces" "I", Cond.fieldLink RX12 39 "VoiceHeapsModel" "first" "[I", Cond.fieldLink RX12 42 "VoiceHeapsModel" "many" "[I", Cond.fieldLink RX12 30 "VoiceHeapsModel" "wordFrom" "[I", Cond.fieldLink RX12 33 "VoiceHeapsModel" "wordTo" "[I", Cond.methodLink RX12 100 yX12_in, Cond.static yX12_in, Cond.initialized RX12, Cond.code yX12_in cX12_in 3 (some .boolean), Cond.methodLink RX12 203 yX12_findPieces, Cond.instanceMethod yX12_findPieces, Cond.selects RX12 yX12_findPieces yX12_findPieces, Cond.code yX12_findPieces cX12_findPieces 3 none, Cond.fieldLink RX12 194 "VoiceHeapsModel" "stretches" "I", Cond.fieldLink RX12 188 "VoiceHeapsModel" "price" "I", Cond.fieldLink RX12 156 "VoiceHeapsModel" "rows" "I", Cond.fieldLink RX12 45 "VoiceHeapsModel" "pieceOf" "[I", Cond.methodLink RX12 197 yX12_isHeard, Cond.instanceMethod yX12_isHeard, Cond.selects RX12 yX12_isHeard yX12_isHeard, Cond.code yX12_isHeard cX12_isHeard 3 (some .boolean), Cond.fieldLink RX12 17 "VoiceHeapsModel" "number" "[I", Cond.fieldLink RX12 20 "VoiceHeapsModel" "isDeaf" "[Z"]
def wsX12_hung_r2 : List Cond := [Cond.fieldLink RX12 24 "VoiceHeapsModel" "isOut" "[Z", Cond.fieldLink RX12 7 "VoiceHeapsModel" "rule" "[I", Cond.methodLink RX12 200 yX12_cut, Cond.instanceMethod yX12_cut, Cond.selects RX12 yX12_cut yX12_cut, Cond.code yX12_cut cX12_cut 6 none, Cond.fieldLink RX12 63 "VoiceHeapsModel" "least" "[I", Cond.fieldLink RX12 66 "VoiceHeapsModel" "taken" "[I", Cond.fieldLink RX12 178 "VoiceHeapsModel" "apart" "I", Cond.fieldLink RX12 51 "VoiceHeapsModel" "spread" "[I", Cond.fieldLink RX12 48 "VoiceHeapsModel" "middle" "[I", Cond.fieldLink RX12 57 "VoiceHeapsModel" "mid" "[I", Cond.methodLink RX12 184 yX12_askRows, Cond.instanceMethod yX12_askRows, Cond.selects RX12 yX12_askRows yX12_askRows, Cond.code yX12_askRows cX12_askRows 4 none, Cond.fieldLink RX12 54 "VoiceHeapsModel" "isAsked" "[Z", Cond.methodLink RX12 181 yX12_findMiddle, Cond.instanceMethod yX12_findMiddle, Cond.selects RX12 yX12_findMiddle yX12_findMiddle, Cond.code yX12_findMiddle cX12_findMiddle 6 none, Cond.fieldLink RX12 60 "VoiceHeapsModel" "line" "[I"]
def wsX12_hung : List Cond := .code yX12_hung cX12_hung 9 (some .int) :: ((wsX12_hung_r1 ++ wsX12_hung_r2) ++ wsX120)
def wsX12_truth : List Cond := .code yX12_truth cX12_truth 6 (some .int) :: ([.fieldLink RX12 27 "VoiceHeapsModel" "truth" "[I", .methodLink RX12 167 yX12_areRows, .instanceMethod yX12_areRows, .selects RX12 yX12_areRows yX12_areRows, .initialized RX12, .code yX12_areRows cX12_areRows 3 (some .boolean), .fieldLink RX12 156 "VoiceHeapsModel" "rows" "I", .methodLink RX12 163 yX12_isRow, .instanceMethod yX12_isRow, .selects RX12 yX12_isRow yX12_isRow, .code yX12_isRow cX12_isRow 2 (some .boolean), .methodLink RX12 100 yX12_in, .static yX12_in, .code yX12_in cX12_in 3 (some .boolean)] ++ wsX120)
def wsX12_mostRight : List Cond := .code yX12_mostRight cX12_mostRight 6 (some .int) :: ([.fieldLink RX12 93 "VoiceHeapsModel" "pairs" "[I", .fieldLink RX12 156 "VoiceHeapsModel" "rows" "I", .fieldLink RX12 45 "VoiceHeapsModel" "pieceOf" "[I", .fieldLink RX12 27 "VoiceHeapsModel" "truth" "[I", .fieldLink RX12 90 "VoiceHeapsModel" "right" "[I", .methodLink RX12 261 yX12_heapOfRow, .instanceMethod yX12_heapOfRow, .selects RX12 yX12_heapOfRow yX12_heapOfRow, .initialized RX12, .code yX12_heapOfRow cX12_heapOfRow 2 (some .int), .fieldLink RX12 72 "VoiceHeapsModel" "best" "[I"] ++ wsX120)
def wsX12_errors_r1 : List Cond := [Cond.fieldLink RX12 156 "VoiceHeapsModel" "rows" "I", Cond.fieldLink RX12 45 "VoiceHeapsModel" "pieceOf" "[I", Cond.fieldLink RX12 27 "VoiceHeapsModel" "truth" "[I", Cond.methodLink RX12 100 yX12_in, Cond.static yX12_in, Cond.initialized RX12, Cond.code yX12_in cX12_in 3 (some .boolean), Cond.methodLink RX12 203 yX12_findPieces, Cond.instanceMethod yX12_findPieces, Cond.selects RX12 yX12_findPieces yX12_findPieces, Cond.code yX12_findPieces cX12_findPieces 3 none, Cond.fieldLink RX12 191 "VoiceHeapsModel" "pieces" "I", Cond.fieldLink RX12 194 "VoiceHeapsModel" "stretches" "I", Cond.fieldLink RX12 188 "VoiceHeapsModel" "price" "I", Cond.methodLink RX12 197 yX12_isHeard, Cond.instanceMethod yX12_isHeard, Cond.selects RX12 yX12_isHeard yX12_isHeard, Cond.code yX12_isHeard cX12_isHeard 3 (some .boolean), Cond.fieldLink RX12 17 "VoiceHeapsModel" "number" "[I", Cond.fieldLink RX12 20 "VoiceHeapsModel" "isDeaf" "[Z", Cond.fieldLink RX12 24 "VoiceHeapsModel" "isOut" "[Z", Cond.fieldLink RX12 7 "VoiceHeapsModel" "rule" "[I", Cond.methodLink RX12 200 yX12_cut, Cond.instanceMethod yX12_cut]
def wsX12_errors_r2 : List Cond := [Cond.selects RX12 yX12_cut yX12_cut, Cond.code yX12_cut cX12_cut 6 none, Cond.fieldLink RX12 63 "VoiceHeapsModel" "least" "[I", Cond.fieldLink RX12 66 "VoiceHeapsModel" "taken" "[I", Cond.fieldLink RX12 178 "VoiceHeapsModel" "apart" "I", Cond.fieldLink RX12 39 "VoiceHeapsModel" "first" "[I", Cond.fieldLink RX12 42 "VoiceHeapsModel" "many" "[I", Cond.fieldLink RX12 51 "VoiceHeapsModel" "spread" "[I", Cond.fieldLink RX12 48 "VoiceHeapsModel" "middle" "[I", Cond.fieldLink RX12 57 "VoiceHeapsModel" "mid" "[I", Cond.methodLink RX12 184 yX12_askRows, Cond.instanceMethod yX12_askRows, Cond.selects RX12 yX12_askRows yX12_askRows, Cond.code yX12_askRows cX12_askRows 4 none, Cond.fieldLink RX12 54 "VoiceHeapsModel" "isAsked" "[Z", Cond.methodLink RX12 181 yX12_findMiddle, Cond.instanceMethod yX12_findMiddle, Cond.selects RX12 yX12_findMiddle yX12_findMiddle, Cond.code yX12_findMiddle cX12_findMiddle 6 none, Cond.fieldLink RX12 60 "VoiceHeapsModel" "line" "[I", Cond.methodLink RX12 240 yX12_findBest, Cond.instanceMethod yX12_findBest, Cond.selects RX12 yX12_findBest yX12_findBest, Cond.code yX12_findBest cX12_findBest 5 (some .boolean)]
def wsX12_errors_r3 : List Cond := [Cond.fieldLink RX12 69 "VoiceHeapsModel" "heap" "[I", Cond.fieldLink RX12 233 "VoiceHeapsModel" "bestWorth" "I", Cond.fieldLink RX12 72 "VoiceHeapsModel" "best" "[I", Cond.methodLink RX12 223 yX12_findGains, Cond.instanceMethod yX12_findGains, Cond.selects RX12 yX12_findGains yX12_findGains, Cond.code yX12_findGains cX12_findGains 3 none, Cond.fieldLink RX12 78 "VoiceHeapsModel" "gain" "[I", Cond.methodLink RX12 212 yX12_likeOf, Cond.instanceMethod yX12_likeOf, Cond.selects RX12 yX12_likeOf yX12_likeOf, Cond.code yX12_likeOf cX12_likeOf 5 (some .int), Cond.methodLink RX12 209 yX12_size, Cond.static yX12_size, Cond.code yX12_size cX12_size 1 (some .int), Cond.methodLink RX12 216 yX12_touch, Cond.instanceMethod yX12_touch, Cond.selects RX12 yX12_touch yX12_touch, Cond.code yX12_touch cX12_touch 4 (some .boolean), Cond.methodLink RX12 226 yX12_begin, Cond.instanceMethod yX12_begin, Cond.selects RX12 yX12_begin yX12_begin, Cond.code yX12_begin cX12_begin 2 none, Cond.methodLink RX12 229 yX12_worthOf]
def wsX12_errors_r4 : List Cond := [Cond.instanceMethod yX12_worthOf, Cond.selects RX12 yX12_worthOf yX12_worthOf, Cond.code yX12_worthOf cX12_worthOf 5 (some .int), Cond.methodLink RX12 236 yX12_goOn, Cond.instanceMethod yX12_goOn, Cond.selects RX12 yX12_goOn yX12_goOn, Cond.code yX12_goOn cX12_goOn 3 (some .boolean), Cond.methodLink RX12 219 yX12_heapsIn, Cond.static yX12_heapsIn, Cond.code yX12_heapsIn cX12_heapsIn 4 (some .int), Cond.methodLink RX12 267 yX12_mostRight, Cond.instanceMethod yX12_mostRight, Cond.selects RX12 yX12_mostRight yX12_mostRight, Cond.code yX12_mostRight cX12_mostRight 6 (some .int), Cond.fieldLink RX12 93 "VoiceHeapsModel" "pairs" "[I", Cond.fieldLink RX12 90 "VoiceHeapsModel" "right" "[I", Cond.methodLink RX12 261 yX12_heapOfRow, Cond.instanceMethod yX12_heapOfRow, Cond.selects RX12 yX12_heapOfRow yX12_heapOfRow, Cond.code yX12_heapOfRow cX12_heapOfRow 2 (some .int)]
def wsX12_errors : List Cond := .code yX12_errors cX12_errors 7 (some .int) :: ((wsX12_errors_r1 ++ (wsX12_errors_r2 ++ (wsX12_errors_r3 ++ wsX12_errors_r4))) ++ wsX120)
def wsX12_weight_r1 : List Cond := [Cond.fieldLink RX12 42 "VoiceHeapsModel" "many" "[I", Cond.fieldLink RX12 48 "VoiceHeapsModel" "middle" "[I", Cond.fieldLink RX12 51 "VoiceHeapsModel" "spread" "[I", Cond.fieldLink RX12 270 "VoiceHeapsModel" "trace" "J", Cond.constantLong RX12 274 (11), Cond.constantLong RX12 276 (111), Cond.constantLong RX12 278 (1111), Cond.constantLong RX12 280 (10111), Cond.constantLong RX12 282 (100011), Cond.constantLong RX12 284 (1000011), Cond.fieldLink RX12 252 "VoiceHeapsModel" "kept" "I", Cond.constantLong RX12 286 (10000001), Cond.methodLink RX12 203 yX12_findPieces, Cond.instanceMethod yX12_findPieces, Cond.selects RX12 yX12_findPieces yX12_findPieces, Cond.initialized RX12, Cond.code yX12_findPieces cX12_findPieces 3 none, Cond.fieldLink RX12 191 "VoiceHeapsModel" "pieces" "I", Cond.fieldLink RX12 194 "VoiceHeapsModel" "stretches" "I", Cond.fieldLink RX12 188 "VoiceHeapsModel" "price" "I", Cond.fieldLink RX12 156 "VoiceHeapsModel" "rows" "I", Cond.fieldLink RX12 45 "VoiceHeapsModel" "pieceOf" "[I", Cond.methodLink RX12 197 yX12_isHeard, Cond.instanceMethod yX12_isHeard]
def wsX12_weight_r2 : List Cond := [Cond.selects RX12 yX12_isHeard yX12_isHeard, Cond.code yX12_isHeard cX12_isHeard 3 (some .boolean), Cond.fieldLink RX12 17 "VoiceHeapsModel" "number" "[I", Cond.fieldLink RX12 20 "VoiceHeapsModel" "isDeaf" "[Z", Cond.fieldLink RX12 24 "VoiceHeapsModel" "isOut" "[Z", Cond.fieldLink RX12 7 "VoiceHeapsModel" "rule" "[I", Cond.methodLink RX12 200 yX12_cut, Cond.instanceMethod yX12_cut, Cond.selects RX12 yX12_cut yX12_cut, Cond.code yX12_cut cX12_cut 6 none, Cond.fieldLink RX12 63 "VoiceHeapsModel" "least" "[I", Cond.fieldLink RX12 66 "VoiceHeapsModel" "taken" "[I", Cond.fieldLink RX12 178 "VoiceHeapsModel" "apart" "I", Cond.fieldLink RX12 39 "VoiceHeapsModel" "first" "[I", Cond.fieldLink RX12 57 "VoiceHeapsModel" "mid" "[I", Cond.methodLink RX12 184 yX12_askRows, Cond.instanceMethod yX12_askRows, Cond.selects RX12 yX12_askRows yX12_askRows, Cond.code yX12_askRows cX12_askRows 4 none, Cond.fieldLink RX12 54 "VoiceHeapsModel" "isAsked" "[Z", Cond.methodLink RX12 100 yX12_in, Cond.static yX12_in, Cond.code yX12_in cX12_in 3 (some .boolean), Cond.methodLink RX12 181 yX12_findMiddle]
def wsX12_weight_r3 : List Cond := [Cond.instanceMethod yX12_findMiddle, Cond.selects RX12 yX12_findMiddle yX12_findMiddle, Cond.code yX12_findMiddle cX12_findMiddle 6 none, Cond.fieldLink RX12 60 "VoiceHeapsModel" "line" "[I", Cond.methodLink RX12 206 yX12_isPiece, Cond.instanceMethod yX12_isPiece, Cond.selects RX12 yX12_isPiece yX12_isPiece, Cond.code yX12_isPiece cX12_isPiece 2 (some .boolean)]
def wsX12_weight : List Cond := .code yX12_weight cX12_weight 6 (some .int) :: ((wsX12_weight_r1 ++ (wsX12_weight_r2 ++ wsX12_weight_r3)) ++ wsX120)
def wsX12_count : List Cond := .code yX12_count cX12_count 4 (some .int) :: ([.fieldLink RX12 156 "VoiceHeapsModel" "rows" "I", .fieldLink RX12 20 "VoiceHeapsModel" "isDeaf" "[Z", .fieldLink RX12 24 "VoiceHeapsModel" "isOut" "[Z", .fieldLink RX12 252 "VoiceHeapsModel" "kept" "I", .fieldLink RX12 171 "VoiceHeapsModel" "words" "I", .fieldLink RX12 104 "VoiceHeapsModel" "typed" "I"] ++ wsX120)
def wsX12_trace : List Cond := .code yX12_trace cX12_trace 1 (some .long) :: ([.fieldLink RX12 270 "VoiceHeapsModel" "trace" "J"] ++ wsX120)
def wsJ9_abs_0f7a4 : List Cond := .code yJ9_abs_0f7a4 cJ9_abs_0f7a4 1 (some .int) :: ([])
def wsJ9_max_7cf53 : List Cond := .code yJ9_max_7cf53 cJ9_max_7cf53 2 (some .int) :: ([])
def wsJ9_min_7cf53 : List Cond := .code yJ9_min_7cf53 cJ9_min_7cf53 2 (some .int) :: ([])
def wsL_law_r1 : List Cond := [Cond.classLink RL 7 RX11, Cond.instantiable RX11 16, Cond.initialized RX11, Cond.classLink RL 10 RX12, Cond.instantiable RX12 45, Cond.initialized RX12, Cond.constantLong RL 13 (4294967295), Cond.methodLink RL 9 yX11_init, Cond.instanceMethod yX11_init, Cond.code yX11_init cX11_init 1 none, Cond.methodLink RX11 1 objectInit, Cond.instanceMethod objectInit, Cond.code objectInit ⟨#[0xb1]⟩ 1 none, Cond.classLink RX11 7 RX8, Cond.instantiable RX8 5, Cond.initialized RX8, Cond.fieldLink RX11 10 "VoiceHeaps" "ruleText" "LVoiceHeaps$RuleText;", Cond.classLink RX11 16 RX7, Cond.instantiable RX7 5, Cond.initialized RX7, Cond.fieldLink RX11 19 "VoiceHeaps" "book" "LVoiceHeaps$RowBook;", Cond.classLink RX11 23 RX3, Cond.instantiable RX3 3, Cond.initialized RX3]
def wsL_law_r2 : List Cond := [Cond.fieldLink RX11 26 "VoiceHeaps" "gathering" "LVoiceHeaps$Gathering;", Cond.classLink RX11 30 RX2, Cond.instantiable RX2 12, Cond.initialized RX2, Cond.fieldLink RX11 33 "VoiceHeaps" "cutting" "LVoiceHeaps$Cutting;", Cond.classLink RX11 37 RX1, Cond.instantiable RX1 4, Cond.initialized RX1, Cond.fieldLink RX11 40 "VoiceHeaps" "bonds" "LVoiceHeaps$Bonds;", Cond.classLink RX11 44 RX0, Cond.instantiable RX0 10, Cond.initialized RX0, Cond.fieldLink RX11 47 "VoiceHeaps" "all" "LVoiceHeaps$AllHeapings;", Cond.classLink RX11 51 RX4, Cond.instantiable RX4 5, Cond.initialized RX4, Cond.fieldLink RX11 54 "VoiceHeaps" "joined" "LVoiceHeaps$Heaping;", Cond.classLink RX11 58 RX5, Cond.instantiable RX5 4, Cond.initialized RX5, Cond.fieldLink RX11 61 "VoiceHeaps" "kept" "LVoiceHeaps$KeptVoices;", Cond.classLink RX11 65 RX10, Cond.instantiable RX10 3, Cond.initialized RX10]
def wsL_law_r3 : List Cond := [Cond.fieldLink RX11 68 "VoiceHeaps" "wordBook" "LVoiceHeaps$WordBook;", Cond.classLink RX11 72 RX9, Cond.instantiable RX9 2, Cond.initialized RX9, Cond.fieldLink RX11 75 "VoiceHeaps" "verdict" "LVoiceHeaps$Verdict;", Cond.classLink RX11 79 RX6, Cond.instantiable RX6 1, Cond.initialized RX6, Cond.fieldLink RX11 82 "VoiceHeaps" "kinds" "LVoiceHeaps$Kinds;", Cond.arrayClass .int, Cond.fieldLink RX11 86 "VoiceHeaps" "shownHeap" "[I", Cond.fieldLink RX11 90 "VoiceHeaps" "shownRows" "I", Cond.fieldLink RX11 94 "VoiceHeaps" "cutIsOld" "Z", Cond.fieldLink RX11 98 "VoiceHeaps" "heapsAreOld" "Z", Cond.fieldLink RX11 101 "VoiceHeaps" "nearIsOld" "Z", Cond.methodLink RX11 9 yX8_init, Cond.instanceMethod yX8_init, Cond.code yX8_init cX8_init 2 none, Cond.methodLink RX8 1 objectInit, Cond.fieldLink RX8 9 "VoiceHeaps$RuleText" "bytes" "[I", Cond.fieldLink RX8 13 "VoiceHeaps$RuleText" "now" "[I", Cond.fieldLink RX8 16 "VoiceHeaps$RuleText" "told" "[I", Cond.fieldLink RX8 19 "VoiceHeaps$RuleText" "AT_FIRST" "[I", Cond.instanceMethod yX7_init]
def wsL_law_r4 : List Cond := [Cond.code yX7_init cX7_init 1 none, Cond.methodLink RX7 3 objectInit, Cond.fieldLink RX7 9 "VoiceHeaps$RowBook" "numbers" "[I", Cond.arrayClass .boolean, Cond.fieldLink RX7 15 "VoiceHeaps$RowBook" "isDeaf" "[Z", Cond.fieldLink RX7 19 "VoiceHeaps$RowBook" "isOut" "[Z", Cond.fieldLink RX7 22 "VoiceHeaps$RowBook" "truthOf" "[I", Cond.instanceMethod yX3_init, Cond.code yX3_init cX3_init 1 none, Cond.methodLink RX3 3 objectInit, Cond.classLink RX3 9 "[[I", Cond.fieldLink RX3 11 "VoiceHeaps$Gathering" "sorted" "[[I", Cond.instanceMethod yX2_init, Cond.code yX2_init cX2_init 1 none, Cond.methodLink RX2 3 objectInit, Cond.fieldLink RX2 9 "VoiceHeaps$Cutting" "first" "[I", Cond.fieldLink RX2 15 "VoiceHeaps$Cutting" "size" "[I", Cond.fieldLink RX2 18 "VoiceHeaps$Cutting" "spread" "[I", Cond.fieldLink RX2 21 "VoiceHeaps$Cutting" "middles" "[I", Cond.fieldLink RX2 24 "VoiceHeaps$Cutting" "stretchOf" "[I", Cond.fieldLink RX2 27 "VoiceHeaps$Cutting" "pieceOf" "[I", Cond.fieldLink RX2 30 "VoiceHeaps$Cutting" "cost" "[I", Cond.fieldLink RX2 33 "VoiceHeaps$Cutting" "most" "[I", Cond.instanceMethod yX1_init]
def wsL_law_r5 : List Cond := [Cond.code yX1_init cX1_init 1 none, Cond.methodLink RX1 3 objectInit, Cond.classLink RX1 9 "[[I", Cond.fieldLink RX1 11 "VoiceHeaps$Bonds" "bond" "[[I", Cond.fieldLink RX1 16 "VoiceHeaps$Bonds" "link" "[[I", Cond.fieldLink RX1 19 "VoiceHeaps$Bonds" "gain" "[I", Cond.instanceMethod yX0_init, Cond.code yX0_init cX0_init 1 none, Cond.methodLink RX0 3 objectInit, Cond.classLink RX0 9 RX4, Cond.fieldLink RX0 12 "VoiceHeaps$AllHeapings" "best" "LVoiceHeaps$Heaping;", Cond.fieldLink RX0 18 "VoiceHeaps$AllHeapings" "heapOf" "[I", Cond.fieldLink RX0 22 "VoiceHeaps$AllHeapings" "members" "[I", Cond.instanceMethod yX4_init, Cond.code yX4_init cX4_init 1 none, Cond.methodLink RX4 3 objectInit, Cond.fieldLink RX4 9 "VoiceHeaps$Heaping" "heapOf" "[I", Cond.fieldLink RX4 15 "VoiceHeaps$Heaping" "renamed" "[I", Cond.fieldLink RX4 18 "VoiceHeaps$Heaping" "middles" "[I", Cond.instanceMethod yX5_init, Cond.code yX5_init cX5_init 1 none, Cond.methodLink RX5 3 objectInit, Cond.fieldLink RX5 11 "VoiceHeaps$KeptVoices" "names" "[I", Cond.fieldLink RX5 15 "VoiceHeaps$KeptVoices" "middles" "[I"]
def wsL_law_r6 : List Cond := [Cond.fieldLink RX5 18 "VoiceHeaps$KeptVoices" "offs" "[I", Cond.instanceMethod yX10_init, Cond.code yX10_init cX10_init 1 none, Cond.methodLink RX10 3 objectInit, Cond.fieldLink RX10 11 "VoiceHeaps$WordBook" "from" "[I", Cond.fieldLink RX10 15 "VoiceHeaps$WordBook" "to" "[I", Cond.instanceMethod yX9_init, Cond.code yX9_init cX9_init 1 none, Cond.methodLink RX9 3 objectInit, Cond.classLink RX9 11 "[[I", Cond.fieldLink RX9 13 "VoiceHeaps$Verdict" "together" "[[I", Cond.fieldLink RX9 16 "VoiceHeaps$Verdict" "right" "[I", Cond.instanceMethod yX6_init, Cond.code yX6_init cX6_init 1 none, Cond.methodLink RX6 1 objectInit, Cond.methodLink RL 12 yX12_init, Cond.instanceMethod yX12_init, Cond.code yX12_init cX12_init 1 none, Cond.methodLink RX12 1 objectInit, Cond.fieldLink RX12 7 "VoiceHeapsModel" "rule" "[I", Cond.arrayClass .byte, Cond.fieldLink RX12 13 "VoiceHeapsModel" "text" "[B", Cond.fieldLink RX12 17 "VoiceHeapsModel" "number" "[I", Cond.fieldLink RX12 20 "VoiceHeapsModel" "isDeaf" "[Z"]
def wsL_law_r7 : List Cond := [Cond.fieldLink RX12 24 "VoiceHeapsModel" "isOut" "[Z", Cond.fieldLink RX12 27 "VoiceHeapsModel" "truth" "[I", Cond.fieldLink RX12 30 "VoiceHeapsModel" "wordFrom" "[I", Cond.fieldLink RX12 33 "VoiceHeapsModel" "wordTo" "[I", Cond.fieldLink RX12 36 "VoiceHeapsModel" "shownHeap" "[I", Cond.fieldLink RX12 39 "VoiceHeapsModel" "first" "[I", Cond.fieldLink RX12 42 "VoiceHeapsModel" "many" "[I", Cond.fieldLink RX12 45 "VoiceHeapsModel" "pieceOf" "[I", Cond.fieldLink RX12 48 "VoiceHeapsModel" "middle" "[I", Cond.fieldLink RX12 51 "VoiceHeapsModel" "spread" "[I", Cond.fieldLink RX12 54 "VoiceHeapsModel" "isAsked" "[Z", Cond.fieldLink RX12 57 "VoiceHeapsModel" "mid" "[I", Cond.fieldLink RX12 60 "VoiceHeapsModel" "line" "[I", Cond.fieldLink RX12 63 "VoiceHeapsModel" "least" "[I", Cond.fieldLink RX12 66 "VoiceHeapsModel" "taken" "[I", Cond.fieldLink RX12 69 "VoiceHeapsModel" "heap" "[I", Cond.fieldLink RX12 72 "VoiceHeapsModel" "best" "[I", Cond.fieldLink RX12 75 "VoiceHeapsModel" "joined" "[I", Cond.fieldLink RX12 78 "VoiceHeapsModel" "gain" "[I", Cond.fieldLink RX12 81 "VoiceHeapsModel" "heapMiddle" "[I", Cond.fieldLink RX12 84 "VoiceHeapsModel" "name" "[I", Cond.fieldLink RX12 87 "VoiceHeapsModel" "voice" "[I", Cond.fieldLink RX12 90 "VoiceHeapsModel" "right" "[I", Cond.fieldLink RX12 93 "VoiceHeapsModel" "pairs" "[I"]
def wsL_law_r8 : List Cond := [Cond.methodLink RX12 96 yX12_atFirst, Cond.instanceMethod yX12_atFirst, Cond.selects RX12 yX12_atFirst yX12_atFirst, Cond.code yX12_atFirst cX12_atFirst 2 none, Cond.methodLink RL 15 yX11_type, Cond.instanceMethod yX11_type, Cond.selects RX11 yX11_type yX11_type, Cond.code yX11_type cX11_type 4 (some .int), Cond.methodLink RX11 104 yX11_within, Cond.static yX11_within, Cond.code yX11_within cX11_within 3 (some .boolean), Cond.methodLink RX11 108 yX8_append, Cond.instanceMethod yX8_append, Cond.selects RX8 yX8_append yX8_append, Cond.code yX8_append cX8_append 5 (some .boolean), Cond.fieldLink RX8 22 "VoiceHeaps$RuleText" "length" "I", Cond.methodLink RL 19 yX12_type, Cond.instanceMethod yX12_type, Cond.selects RX12 yX12_type yX12_type, Cond.code yX12_type cX12_type 5 (some .int), Cond.fieldLink RX12 104 "VoiceHeapsModel" "typed" "I", Cond.constantLong RX12 108 (255), Cond.methodLink RX12 100 yX12_in, Cond.static yX12_in]
def wsL_law_r9 : List Cond := [Cond.code yX12_in cX12_in 3 (some .boolean), Cond.methodLink RL 20 yX11_clear, Cond.instanceMethod yX11_clear, Cond.selects RX11 yX11_clear yX11_clear, Cond.code yX11_clear cX11_clear 2 (some .int), Cond.methodLink RL 24 yX12_clear, Cond.instanceMethod yX12_clear, Cond.selects RX12 yX12_clear yX12_clear, Cond.code yX12_clear cX12_clear 2 (some .int), Cond.methodLink RL 25 yX11_rules, Cond.instanceMethod yX11_rules, Cond.selects RX11 yX11_rules yX11_rules, Cond.code yX11_rules cX11_rules 2 (some .int), Cond.methodLink RX11 115 yX8_read, Cond.instanceMethod yX8_read, Cond.selects RX8 yX8_read yX8_read, Cond.code yX8_read cX8_read 3 (some .int), Cond.fieldLink RX8 32 "VoiceHeaps$RuleText" "at" "I", Cond.methodLink RX8 26 yJ7_fill_53178, Cond.static yJ7_fill_53178, Cond.initialized RJ7, Cond.code yJ7_fill_53178 cJ7_fill_53178 4 none, Cond.methodLink RX8 35 yX8_endsBehindBlanks, Cond.instanceMethod yX8_endsBehindBlanks]
def wsL_law_r10 : List Cond := [Cond.selects RX8 yX8_endsBehindBlanks yX8_endsBehindBlanks, Cond.code yX8_endsBehindBlanks cX8_endsBehindBlanks 1 (some .boolean), Cond.methodLink RX8 39 yX8_adopt, Cond.instanceMethod yX8_adopt, Cond.selects RX8 yX8_adopt yX8_adopt, Cond.code yX8_adopt cX8_adopt 2 none, Cond.methodLink RX8 42 yX8_readItem, Cond.instanceMethod yX8_readItem, Cond.selects RX8 yX8_readItem yX8_readItem, Cond.code yX8_readItem cX8_readItem 4 (some .int), Cond.fieldLink RX8 52 "VoiceHeaps$RuleText" "MOST" "[I", Cond.methodLink RX8 46 yX8_readWord, Cond.instanceMethod yX8_readWord, Cond.selects RX8 yX8_readWord yX8_readWord, Cond.code yX8_readWord cX8_readWord 3 (some .int), Cond.methodLink RX8 55 yX8_isLetter, Cond.static yX8_isLetter, Cond.code yX8_isLetter cX8_isLetter 1 (some .boolean), Cond.methodLink RX8 59 yX8_wordOf, Cond.static yX8_wordOf, Cond.code yX8_wordOf cX8_wordOf 1 (some (.object "java/lang/String")), Cond.methodLink RX8 63 yX8_isWord, Cond.instanceMethod yX8_isWord, Cond.selects RX8 yX8_isWord yX8_isWord]
def wsL_law_r11 : List Cond := [Cond.code yX8_isWord cX8_isWord 5 (some .boolean), Cond.methodLink RX8 76 yJ0_length_8abf5, Cond.instanceMethod yJ0_length_8abf5, Cond.selects RJ0 yJ0_length_8abf5 yJ0_length_8abf5, Cond.initialized RJ0, Cond.code yJ0_length_8abf5 cJ0_length_8abf5 1 (some .int), Cond.fieldLink RJ0 9 "java/lang/String" "value" "[B", Cond.methodLink RJ0 335 yJ0_coder_7d493, Cond.instanceMethod yJ0_coder_7d493, Cond.selects RJ0 yJ0_coder_7d493 yJ0_coder_7d493, Cond.code yJ0_coder_7d493 cJ0_coder_7d493 1 (some .byte), Cond.fieldLink RJ0 38 "java/lang/String" "COMPACT_STRINGS" "Z", Cond.fieldLink RJ0 15 "java/lang/String" "coder" "B", Cond.methodLink RX8 80 yJ0_charAt_5068e, Cond.instanceMethod yJ0_charAt_5068e, Cond.selects RJ0 yJ0_charAt_5068e yJ0_charAt_5068e, Cond.code yJ0_charAt_5068e cJ0_charAt_5068e 2 (some .char), Cond.methodLink RJ0 492 yJ0_isLatin1_aae02, Cond.instanceMethod yJ0_isLatin1_aae02, Cond.selects RJ0 yJ0_isLatin1_aae02 yJ0_isLatin1_aae02, Cond.code yJ0_isLatin1_aae02 cJ0_isLatin1_aae02 1 (some .boolean), Cond.methodLink RJ0 495 yJ1_charAt_3b067, Cond.static yJ1_charAt_3b067, Cond.initialized RJ1]
def wsL_law_r12 : List Cond := [Cond.code yJ1_charAt_3b067 cJ1_charAt_3b067 2 (some .char), Cond.methodLink RJ1 9 yJ0_checkIndex_df160, Cond.static yJ0_checkIndex_df160, Cond.code yJ0_checkIndex_df160 cJ0_checkIndex_df160 2 none, Cond.fieldLink RJ0 1053 "jdk/internal/util/Preconditions" "SIOOBE_FORMATTER" "Ljava/util/function/BiFunction;", Cond.methodLink RJ0 1059 yJ3_checkIndex_8e157, Cond.static yJ3_checkIndex_8e157, Cond.initialized RJ3, Cond.code yJ3_checkIndex_8e157 cJ3_checkIndex_8e157 3 (some .int), Cond.methodLink RJ0 498 yJ2_charAt_3b067, Cond.static yJ2_charAt_3b067, Cond.initialized RJ2, Cond.code yJ2_charAt_3b067 cJ2_charAt_3b067 2 (some .char), Cond.methodLink RJ2 67 yJ2_checkIndex_2214a, Cond.static yJ2_checkIndex_2214a, Cond.code yJ2_checkIndex_2214a cJ2_checkIndex_2214a 2 none, Cond.methodLink RJ2 48 yJ2_length_9d52b, Cond.static yJ2_length_9d52b, Cond.code yJ2_length_9d52b cJ2_length_9d52b 1 (some .int), Cond.methodLink RJ2 414 yJ0_checkIndex_df160, Cond.methodLink RJ2 71 yJ2_getChar_3b067, Cond.static yJ2_getChar_3b067, Cond.code yJ2_getChar_3b067 cJ2_getChar_3b067 2 (some .char), Cond.fieldLink RJ2 44 "java/lang/StringUTF16" "$assertionsDisabled" "Z"]
def wsL_law_r13 : List Cond := [Cond.fieldLink RJ2 59 "java/lang/StringUTF16" "HI_BYTE_SHIFT" "I", Cond.fieldLink RJ2 63 "java/lang/StringUTF16" "LO_BYTE_SHIFT" "I", Cond.methodLink RX8 49 yX8_readNumber, Cond.instanceMethod yX8_readNumber, Cond.selects RX8 yX8_readNumber yX8_readNumber, Cond.code yX8_readNumber cX8_readNumber 4 (some .int), Cond.methodLink RX8 70 Lib.Math.min.name, Cond.static Lib.Math.min.name, Cond.initialized "java/lang/Math", Cond.code Lib.Math.min.name Lib.Math.min.code 2 (some .int), Cond.methodLink RX8 67 yX8_isDigit, Cond.static yX8_isDigit, Cond.code yX8_isDigit cX8_isDigit 1 (some .boolean), Cond.methodLink RX11 119 yX11_nothingIsFound, Cond.instanceMethod yX11_nothingIsFound, Cond.selects RX11 yX11_nothingIsFound yX11_nothingIsFound, Cond.code yX11_nothingIsFound cX11_nothingIsFound 1 none, Cond.methodLink RL 28 yX12_rules, Cond.instanceMethod yX12_rules, Cond.selects RX12 yX12_rules yX12_rules, Cond.code yX12_rules cX12_rules 5 (some .int), Cond.fieldLink RX12 110 "VoiceHeapsModel" "at" "I", Cond.fieldLink RX12 142 "VoiceHeapsModel" "fault" "I", Cond.fieldLink RX12 135 "VoiceHeapsModel" "sort" "I"]
def wsL_law_r14 : List Cond := [Cond.fieldLink RX12 132 "VoiceHeapsModel" "value" "I", Cond.methodLink RX12 145 yX12_next, Cond.instanceMethod yX12_next, Cond.selects RX12 yX12_next yX12_next, Cond.code yX12_next cX12_next 2 none, Cond.fieldLink RX12 129 "VoiceHeapsModel" "start" "I", Cond.methodLink RX12 125 yX12_here, Cond.instanceMethod yX12_here, Cond.selects RX12 yX12_here yX12_here, Cond.code yX12_here cX12_here 1 (some .int), Cond.methodLink RX12 138 yX12_wordOf, Cond.instanceMethod yX12_wordOf, Cond.selects RX12 yX12_wordOf yX12_wordOf, Cond.code yX12_wordOf cX12_wordOf 6 (some .int), Cond.methodLink RX12 117 yX12_more, Cond.static yX12_more, Cond.code yX12_more cX12_more 3 (some .long), Cond.constantLong RX12 113 (27), Cond.constantLong RX12 115 (97), Cond.methodLink RX12 121 yX12_code, Cond.static yX12_code, Cond.code yX12_code cX12_code 5 (some .long), Cond.methodLink RX12 148 yX12_due, Cond.instanceMethod yX12_due]
def wsL_law_r15 : List Cond := [Cond.selects RX12 yX12_due yX12_due, Cond.code yX12_due cX12_due 3 (some .int), Cond.methodLink RX12 152 yX12_most, Cond.static yX12_most, Cond.code yX12_most cX12_most 1 (some .int), Cond.methodLink RL 29 yX11_rule, Cond.instanceMethod yX11_rule, Cond.selects RX11 yX11_rule yX11_rule, Cond.code yX11_rule cX11_rule 2 (some .int), Cond.methodLink RX11 122 yX8_ruleNow, Cond.instanceMethod yX8_ruleNow, Cond.selects RX8 yX8_ruleNow yX8_ruleNow, Cond.code yX8_ruleNow cX8_ruleNow 2 (some .int), Cond.methodLink RL 33 yX12_rule, Cond.instanceMethod yX12_rule, Cond.selects RX12 yX12_rule yX12_rule, Cond.code yX12_rule cX12_rule 2 (some .int), Cond.methodLink RL 34 yX11_row, Cond.instanceMethod yX11_row, Cond.selects RX11 yX11_row yX11_row, Cond.code yX11_row cX11_row 5 (some .int), Cond.methodLink RX11 126 yX11_isLoudness, Cond.static yX11_isLoudness, Cond.code yX11_isLoudness cX11_isLoudness 1 (some .boolean)]
def wsL_law_r16 : List Cond := [Cond.methodLink RX11 133 yX7_addRow, Cond.instanceMethod yX7_addRow, Cond.selects RX7 yX7_addRow yX7_addRow, Cond.code yX7_addRow cX7_addRow 6 (some .int), Cond.methodLink RX7 25 yX7_addDeaf, Cond.instanceMethod yX7_addDeaf, Cond.selects RX7 yX7_addDeaf yX7_addDeaf, Cond.code yX7_addDeaf cX7_addDeaf 2 (some .int), Cond.fieldLink RX7 29 "VoiceHeaps$RowBook" "rows" "I", Cond.methodLink RL 38 yX12_row, Cond.instanceMethod yX12_row, Cond.selects RX12 yX12_row yX12_row, Cond.code yX12_row cX12_row 5 (some .int), Cond.fieldLink RX12 156 "VoiceHeapsModel" "rows" "I", Cond.methodLink RX12 159 yX12_addRow, Cond.instanceMethod yX12_addRow, Cond.selects RX12 yX12_addRow yX12_addRow, Cond.code yX12_addRow cX12_addRow 6 none, Cond.methodLink RL 39 yX11_deaf, Cond.instanceMethod yX11_deaf, Cond.selects RX11 yX11_deaf yX11_deaf, Cond.code yX11_deaf cX11_deaf 3 (some .int), Cond.methodLink RX11 137 yX7_addDeaf, Cond.methodLink RL 42 yX12_deaf]
def wsL_law_r17 : List Cond := [Cond.instanceMethod yX12_deaf, Cond.selects RX12 yX12_deaf yX12_deaf, Cond.code yX12_deaf cX12_deaf 3 (some .int), Cond.methodLink RL 43 yX11_out, Cond.instanceMethod yX11_out, Cond.selects RX11 yX11_out yX11_out, Cond.code yX11_out cX11_out 5 (some .int), Cond.methodLink RX11 140 yX11_areRows, Cond.instanceMethod yX11_areRows, Cond.selects RX11 yX11_areRows yX11_areRows, Cond.code yX11_areRows cX11_areRows 3 (some .boolean), Cond.methodLink RX11 144 yX7_setOut, Cond.instanceMethod yX7_setOut, Cond.selects RX7 yX7_setOut yX7_setOut, Cond.code yX7_setOut cX7_setOut 6 (some .int), Cond.methodLink RX7 33 Lib.Math.max.name, Cond.static Lib.Math.max.name, Cond.code Lib.Math.max.name Lib.Math.max.code 2 (some .int), Cond.methodLink RL 47 yX12_out, Cond.instanceMethod yX12_out, Cond.selects RX12 yX12_out yX12_out, Cond.code yX12_out cX12_out 6 (some .int), Cond.methodLink RX12 167 yX12_areRows, Cond.instanceMethod yX12_areRows]
def wsL_law_r18 : List Cond := [Cond.selects RX12 yX12_areRows yX12_areRows, Cond.code yX12_areRows cX12_areRows 3 (some .boolean), Cond.methodLink RX12 163 yX12_isRow, Cond.instanceMethod yX12_isRow, Cond.selects RX12 yX12_isRow yX12_isRow, Cond.code yX12_isRow cX12_isRow 2 (some .boolean), Cond.methodLink RL 48 yX11_hush, Cond.instanceMethod yX11_hush, Cond.selects RX11 yX11_hush yX11_hush, Cond.code yX11_hush cX11_hush 2 (some .int), Cond.methodLink RL 51 yX12_hush, Cond.instanceMethod yX12_hush, Cond.selects RX12 yX12_hush yX12_hush, Cond.code yX12_hush cX12_hush 2 (some .int), Cond.fieldLink RX12 171 "VoiceHeapsModel" "words" "I", Cond.fieldLink RX12 174 "VoiceHeapsModel" "isShown" "Z", Cond.methodLink RL 52 yX11_pieces, Cond.instanceMethod yX11_pieces, Cond.selects RX11 yX11_pieces yX11_pieces, Cond.code yX11_pieces cX11_pieces 2 (some .int), Cond.methodLink RX11 151 yX11_cutNow, Cond.instanceMethod yX11_cutNow, Cond.selects RX11 yX11_cutNow yX11_cutNow, Cond.code yX11_cutNow cX11_cutNow 1 none]
def wsL_law_r19 : List Cond := [Cond.methodLink RX11 302 yX2_cut, Cond.instanceMethod yX2_cut, Cond.selects RX2 yX2_cut yX2_cut, Cond.code yX2_cut cX2_cut 7 none, Cond.fieldLink RX2 36 "VoiceHeaps$Cutting" "pieces" "I", Cond.fieldLink RX2 40 "VoiceHeaps$Cutting" "stretches" "I", Cond.fieldLink RX2 43 "VoiceHeaps$Cutting" "total" "I", Cond.fieldLink RX2 46 "VoiceHeaps$Cutting" "heardRows" "I", Cond.methodLink RX2 49 yJ7_fill_53178, Cond.methodLink RX2 60 yX7_isHeard, Cond.instanceMethod yX7_isHeard, Cond.selects RX7 yX7_isHeard yX7_isHeard, Cond.code yX7_isHeard cX7_isHeard 5 (some .boolean), Cond.methodLink RX2 64 yX2_findCosts, Cond.instanceMethod yX2_findCosts, Cond.selects RX2 yX2_findCosts yX2_findCosts, Cond.code yX2_findCosts cX2_findCosts 9 none, Cond.constant RX2 77 (1000000000), Cond.methodLink RX2 72 yX3_empty, Cond.instanceMethod yX3_empty, Cond.selects RX3 yX3_empty yX3_empty, Cond.code yX3_empty cX3_empty 1 none, Cond.fieldLink RX3 16 "VoiceHeaps$Gathering" "rows" "I", Cond.fieldLink RX3 20 "VoiceHeaps$Gathering" "spread" "I"]
def wsL_law_r20 : List Cond := [Cond.methodLink RX2 78 yX3_take, Cond.instanceMethod yX3_take, Cond.selects RX3 yX3_take yX3_take, Cond.code yX3_take cX3_take 7 none, Cond.methodLink RX3 29 Lib.Math.max.name, Cond.methodLink RX2 68 yX2_addPieces, Cond.instanceMethod yX2_addPieces, Cond.selects RX2 yX2_addPieces yX2_addPieces, Cond.code yX2_addPieces cX2_addPieces 8 none, Cond.methodLink RX2 84 Lib.Math.max.name, Cond.methodLink RX2 90 Lib.Math.min.name, Cond.methodLink RX2 93 yX3_writeMiddle, Cond.instanceMethod yX3_writeMiddle, Cond.selects RX3 yX3_writeMiddle yX3_writeMiddle, Cond.code yX3_writeMiddle cX3_writeMiddle 4 none, Cond.methodLink RL 55 yX12_pieces, Cond.instanceMethod yX12_pieces, Cond.selects RX12 yX12_pieces yX12_pieces, Cond.code yX12_pieces cX12_pieces 4 (some .int), Cond.fieldLink RX12 191 "VoiceHeapsModel" "pieces" "I", Cond.fieldLink RX12 194 "VoiceHeapsModel" "stretches" "I", Cond.fieldLink RX12 188 "VoiceHeapsModel" "price" "I", Cond.methodLink RX12 203 yX12_findPieces, Cond.instanceMethod yX12_findPieces]
def wsL_law_r21 : List Cond := [Cond.selects RX12 yX12_findPieces yX12_findPieces, Cond.code yX12_findPieces cX12_findPieces 3 none, Cond.methodLink RX12 197 yX12_isHeard, Cond.instanceMethod yX12_isHeard, Cond.selects RX12 yX12_isHeard yX12_isHeard, Cond.code yX12_isHeard cX12_isHeard 3 (some .boolean), Cond.methodLink RX12 200 yX12_cut, Cond.instanceMethod yX12_cut, Cond.selects RX12 yX12_cut yX12_cut, Cond.code yX12_cut cX12_cut 6 none, Cond.fieldLink RX12 178 "VoiceHeapsModel" "apart" "I", Cond.methodLink RX12 184 yX12_askRows, Cond.instanceMethod yX12_askRows, Cond.selects RX12 yX12_askRows yX12_askRows, Cond.code yX12_askRows cX12_askRows 4 none, Cond.methodLink RX12 181 yX12_findMiddle, Cond.instanceMethod yX12_findMiddle, Cond.selects RX12 yX12_findMiddle yX12_findMiddle, Cond.code yX12_findMiddle cX12_findMiddle 6 none, Cond.methodLink RL 56 yX11_piece, Cond.instanceMethod yX11_piece, Cond.selects RX11 yX11_piece yX11_piece, Cond.code yX11_piece cX11_piece 3 (some .int), Cond.methodLink RX11 166 yX11_isPiece]
def wsL_law_r22 : List Cond := [Cond.instanceMethod yX11_isPiece, Cond.selects RX11 yX11_isPiece yX11_isPiece, Cond.code yX11_isPiece cX11_isPiece 2 (some .boolean), Cond.methodLink RX11 178 yX2_middleOf, Cond.instanceMethod yX2_middleOf, Cond.selects RX2 yX2_middleOf yX2_middleOf, Cond.code yX2_middleOf cX2_middleOf 3 (some .int), Cond.methodLink RL 60 yX12_piece, Cond.instanceMethod yX12_piece, Cond.selects RX12 yX12_piece yX12_piece, Cond.code yX12_piece cX12_piece 3 (some .int), Cond.methodLink RX12 206 yX12_isPiece, Cond.instanceMethod yX12_isPiece, Cond.selects RX12 yX12_isPiece yX12_isPiece, Cond.code yX12_isPiece cX12_isPiece 2 (some .boolean), Cond.methodLink RL 61 yX11_of, Cond.instanceMethod yX11_of, Cond.selects RX11 yX11_of yX11_of, Cond.code yX11_of cX11_of 2 (some .int), Cond.methodLink RL 64 yX12_of, Cond.instanceMethod yX12_of, Cond.selects RX12 yX12_of yX12_of, Cond.code yX12_of cX12_of 2 (some .int), Cond.methodLink RL 65 yX11_like]
def wsL_law_r23 : List Cond := [Cond.instanceMethod yX11_like, Cond.selects RX11 yX11_like yX11_like, Cond.code yX11_like cX11_like 3 (some .int), Cond.constant RX11 185 (-1000000), Cond.methodLink RX11 186 yX2_likeness, Cond.instanceMethod yX2_likeness, Cond.selects RX2 yX2_likeness yX2_likeness, Cond.code yX2_likeness cX2_likeness 4 (some .int), Cond.static yX11_off, Cond.code yX11_off cX11_off 6 (some .int), Cond.methodLink RX11 326 Lib.Math.abs.name, Cond.static Lib.Math.abs.name, Cond.code Lib.Math.abs.name Lib.Math.abs.code 1 (some .int), Cond.methodLink RL 68 yX12_like, Cond.instanceMethod yX12_like, Cond.selects RX12 yX12_like yX12_like, Cond.code yX12_like cX12_like 3 (some .int), Cond.constant RX12 215 (-1000000), Cond.methodLink RX12 212 yX12_likeOf, Cond.instanceMethod yX12_likeOf, Cond.selects RX12 yX12_likeOf yX12_likeOf, Cond.code yX12_likeOf cX12_likeOf 5 (some .int), Cond.methodLink RX12 209 yX12_size, Cond.static yX12_size]
def wsL_law_r24 : List Cond := [Cond.code yX12_size cX12_size 1 (some .int), Cond.methodLink RL 69 yX11_heap, Cond.instanceMethod yX11_heap, Cond.selects RX11 yX11_heap yX11_heap, Cond.code yX11_heap cX11_heap 3 (some .int), Cond.methodLink RX11 190 yX11_heapNow, Cond.instanceMethod yX11_heapNow, Cond.selects RX11 yX11_heapNow yX11_heapNow, Cond.code yX11_heapNow cX11_heapNow 1 (some .boolean), Cond.methodLink RX11 306 yX1_tie, Cond.instanceMethod yX1_tie, Cond.selects RX1 yX1_tie yX1_tie, Cond.code yX1_tie cX1_tie 7 none, Cond.methodLink RX1 29 Lib.Math.min.name, Cond.fieldLink RX1 35 "VoiceHeaps$Bonds" "pieces" "I", Cond.methodLink RX1 36 yX2_likeness, Cond.methodLink RX1 40 yX2_doTouch, Cond.instanceMethod yX2_doTouch, Cond.selects RX2 yX2_doTouch yX2_doTouch, Cond.code yX2_doTouch cX2_doTouch 3 (some .boolean), Cond.methodLink RX2 100 Lib.Math.abs.name, Cond.methodLink RX1 44 yX1_fillGains, Cond.instanceMethod yX1_fillGains, Cond.selects RX1 yX1_fillGains yX1_fillGains]
def wsL_law_r25 : List Cond := [Cond.code yX1_fillGains cX1_fillGains 6 none, Cond.methodLink RX11 310 yX0_findBest, Cond.instanceMethod yX0_findBest, Cond.selects RX0 yX0_findBest yX0_findBest, Cond.code yX0_findBest cX0_findBest 2 none, Cond.fieldLink RX0 25 "VoiceHeaps$AllHeapings" "isForNear" "Z", Cond.constant RX0 29 (-1000000000), Cond.methodLink RX0 34 yJ7_fill_53178, Cond.methodLink RX0 40 yX0_deal, Cond.static yX0_deal, Cond.code yX0_deal cX0_deal 9 none, Cond.methodLink RX0 74 Lib.Math.max.name, Cond.methodLink RX0 70 yX0_meet, Cond.instanceMethod yX0_meet, Cond.selects RX0 yX0_meet yX0_meet, Cond.code yX0_meet cX0_meet 7 none, Cond.methodLink RX0 87 yX0_meetNear, Cond.instanceMethod yX0_meetNear, Cond.selects RX0 yX0_meetNear yX0_meetNear, Cond.code yX0_meetNear cX0_meetNear 5 none, Cond.fieldLink RX0 44 "VoiceHeaps$AllHeapings" "least" "I", Cond.fieldLink RX0 47 "VoiceHeaps$AllHeapings" "nearOnes" "I", Cond.fieldLink RX0 50 "VoiceHeaps$AllHeapings" "fewest" "I", Cond.methodLink RX0 95 Lib.Math.min.name]
def wsL_law_r26 : List Cond := [Cond.fieldLink RX0 53 "VoiceHeaps$AllHeapings" "most" "I", Cond.fieldLink RX0 58 "VoiceHeaps$AllHeapings" "always" "J", Cond.fieldLink RX0 62 "VoiceHeaps$AllHeapings" "ever" "J", Cond.methodLink RX0 80 yX1_gainOf, Cond.instanceMethod yX1_gainOf, Cond.selects RX1 yX1_gainOf yX1_gainOf, Cond.code yX1_gainOf cX1_gainOf 4 (some .int), Cond.methodLink RX0 83 yX0_placeOfPairs, Cond.static yX0_placeOfPairs, Cond.code yX0_placeOfPairs cX0_placeOfPairs 1 (some .int), Cond.methodLink RX11 314 yX4_findMiddles, Cond.instanceMethod yX4_findMiddles, Cond.selects RX4 yX4_findMiddles yX4_findMiddles, Cond.code yX4_findMiddles cX4_findMiddles 7 none, Cond.fieldLink RX4 27 "VoiceHeaps$Heaping" "heaps" "I", Cond.methodLink RX4 31 yX3_empty, Cond.methodLink RX4 46 yX3_take, Cond.methodLink RX4 50 yX3_writeMiddle, Cond.methodLink RX11 318 yX1_join, Cond.instanceMethod yX1_join, Cond.selects RX1 yX1_join yX1_join, Cond.code yX1_join cX1_join 4 none, Cond.methodLink RX1 53 yX1_joinTwo, Cond.instanceMethod yX1_joinTwo]
def wsL_law_r27 : List Cond := [Cond.selects RX1 yX1_joinTwo yX1_joinTwo, Cond.code yX1_joinTwo cX1_joinTwo 7 (some .boolean), Cond.methodLink RX1 57 yX4_numberHeaps, Cond.instanceMethod yX4_numberHeaps, Cond.selects RX4 yX4_numberHeaps yX4_numberHeaps, Cond.code yX4_numberHeaps cX4_numberHeaps 4 none, Cond.methodLink RX4 21 yJ7_fill_53178, Cond.methodLink RX1 60 yX1_worthOf, Cond.instanceMethod yX1_worthOf, Cond.selects RX1 yX1_worthOf yX1_worthOf, Cond.code yX1_worthOf cX1_worthOf 5 (some .int), Cond.methodLink RX11 194 yX11_byWay, Cond.instanceMethod yX11_byWay, Cond.selects RX11 yX11_byWay yX11_byWay, Cond.code yX11_byWay cX11_byWay 2 (some (.object "VoiceHeaps$Heaping")), Cond.methodLink RL 72 yX12_heap, Cond.instanceMethod yX12_heap, Cond.selects RX12 yX12_heap yX12_heap, Cond.code yX12_heap cX12_heap 3 (some .int), Cond.methodLink RX12 240 yX12_findBest, Cond.instanceMethod yX12_findBest, Cond.selects RX12 yX12_findBest yX12_findBest, Cond.code yX12_findBest cX12_findBest 5 (some .boolean), Cond.fieldLink RX12 233 "VoiceHeapsModel" "bestWorth" "I"]
def wsL_law_r28 : List Cond := [Cond.methodLink RX12 223 yX12_findGains, Cond.instanceMethod yX12_findGains, Cond.selects RX12 yX12_findGains yX12_findGains, Cond.code yX12_findGains cX12_findGains 3 none, Cond.methodLink RX12 216 yX12_touch, Cond.instanceMethod yX12_touch, Cond.selects RX12 yX12_touch yX12_touch, Cond.code yX12_touch cX12_touch 4 (some .boolean), Cond.methodLink RX12 226 yX12_begin, Cond.instanceMethod yX12_begin, Cond.selects RX12 yX12_begin yX12_begin, Cond.code yX12_begin cX12_begin 2 none, Cond.methodLink RX12 229 yX12_worthOf, Cond.instanceMethod yX12_worthOf, Cond.selects RX12 yX12_worthOf yX12_worthOf, Cond.code yX12_worthOf cX12_worthOf 5 (some .int), Cond.methodLink RX12 236 yX12_goOn, Cond.instanceMethod yX12_goOn, Cond.selects RX12 yX12_goOn yX12_goOn, Cond.code yX12_goOn cX12_goOn 3 (some .boolean), Cond.methodLink RX12 219 yX12_heapsIn, Cond.static yX12_heapsIn, Cond.code yX12_heapsIn cX12_heapsIn 4 (some .int), Cond.methodLink RX12 243 yX12_join]
def wsL_law_r29 : List Cond := [Cond.instanceMethod yX12_join, Cond.selects RX12 yX12_join yX12_join, Cond.code yX12_join cX12_join 10 none, Cond.methodLink RL 73 yX11_worth, Cond.instanceMethod yX11_worth, Cond.selects RX11 yX11_worth yX11_worth, Cond.code yX11_worth cX11_worth 2 (some .int), Cond.methodLink RL 76 yX12_worth, Cond.instanceMethod yX12_worth, Cond.selects RX12 yX12_worth yX12_worth, Cond.code yX12_worth cX12_worth 2 (some .int), Cond.methodLink RL 77 yX11_near, Cond.instanceMethod yX11_near, Cond.selects RX11 yX11_near yX11_near, Cond.code yX11_near cX11_near 2 (some .int), Cond.methodLink RX11 207 yX11_nearNow, Cond.instanceMethod yX11_nearNow, Cond.selects RX11 yX11_nearNow yX11_nearNow, Cond.code yX11_nearNow cX11_nearNow 1 none, Cond.methodLink RX11 322 yX0_findNear, Cond.instanceMethod yX0_findNear, Cond.selects RX0 yX0_findNear yX0_findNear, Cond.code yX0_findNear cX0_findNear 3 none, Cond.constantLong RX0 56 (-1)]
def wsL_law_r30 : List Cond := [Cond.methodLink RL 80 yX12_near, Cond.instanceMethod yX12_near, Cond.selects RX12 yX12_near yX12_near, Cond.code yX12_near cX12_near 7 (some .int), Cond.methodLink RL 81 yX11_sure, Cond.instanceMethod yX11_sure, Cond.selects RX11 yX11_sure yX11_sure, Cond.code yX11_sure cX11_sure 3 (some .int), Cond.methodLink RX11 219 yX0_sureness, Cond.instanceMethod yX0_sureness, Cond.selects RX0 yX0_sureness yX0_sureness, Cond.code yX0_sureness cX0_sureness 5 (some .int), Cond.methodLink RL 84 yX12_sure, Cond.instanceMethod yX12_sure, Cond.selects RX12 yX12_sure yX12_sure, Cond.code yX12_sure cX12_sure 6 (some .int), Cond.methodLink RL 85 yX11_middle, Cond.instanceMethod yX11_middle, Cond.selects RX11 yX11_middle yX11_middle, Cond.code yX11_middle cX11_middle 4 (some .int), Cond.methodLink RX11 222 yX11_isHeapNumber, Cond.static yX11_isHeapNumber, Cond.code yX11_isHeapNumber cX11_isHeapNumber 1 (some .boolean), Cond.methodLink RX11 225 yX11_refusedHeap]
def wsL_law_r31 : List Cond := [Cond.instanceMethod yX11_refusedHeap, Cond.selects RX11 yX11_refusedHeap yX11_refusedHeap, Cond.code yX11_refusedHeap cX11_refusedHeap 2 (some .int), Cond.methodLink RX11 231 yX4_middleOf, Cond.instanceMethod yX4_middleOf, Cond.selects RX4 yX4_middleOf yX4_middleOf, Cond.code yX4_middleOf cX4_middleOf 3 (some .int), Cond.methodLink RL 88 yX12_middle, Cond.instanceMethod yX12_middle, Cond.selects RX12 yX12_middle yX12_middle, Cond.code yX12_middle cX12_middle 4 (some .int), Cond.methodLink RX12 249 yX12_wrong, Cond.instanceMethod yX12_wrong, Cond.selects RX12 yX12_wrong yX12_wrong, Cond.code yX12_wrong cX12_wrong 2 (some .int), Cond.methodLink RX12 246 yX12_findHeapMiddles, Cond.instanceMethod yX12_findHeapMiddles, Cond.selects RX12 yX12_findHeapMiddles yX12_findHeapMiddles, Cond.code yX12_findHeapMiddles cX12_findHeapMiddles 3 none, Cond.methodLink RL 89 yX11_twice, Cond.instanceMethod yX11_twice, Cond.selects RX11 yX11_twice yX11_twice, Cond.code yX11_twice cX11_twice 4 (some .int), Cond.methodLink RX11 232 yX4_twoInOne]
def wsL_law_r32 : List Cond := [Cond.instanceMethod yX4_twoInOne, Cond.selects RX4 yX4_twoInOne yX4_twoInOne, Cond.code yX4_twoInOne cX4_twoInOne 10 (some .int), Cond.constant RX4 53 (1000000000), Cond.methodLink RX4 54 yX4_offOfTwo, Cond.instanceMethod yX4_offOfTwo, Cond.selects RX4 yX4_offOfTwo yX4_offOfTwo, Cond.code yX4_offOfTwo cX4_offOfTwo 8 (some .int), Cond.methodLink RX4 67 Lib.Math.min.name, Cond.methodLink RX4 73 Lib.Math.abs.name, Cond.methodLink RX4 63 yX4_middleOf, Cond.methodLink RX4 72 yX2_middleOf, Cond.methodLink RL 92 yX12_twice, Cond.instanceMethod yX12_twice, Cond.selects RX12 yX12_twice yX12_twice, Cond.code yX12_twice cX12_twice 13 (some .int), Cond.methodLink RL 93 yX11_keep, Cond.instanceMethod yX11_keep, Cond.selects RX11 yX11_keep yX11_keep, Cond.code yX11_keep cX11_keep 4 (some .int), Cond.methodLink RX11 236 yX5_add, Cond.instanceMethod yX5_add, Cond.selects RX5 yX5_add yX5_add, Cond.code yX5_add cX5_add 6 (some .int)]
def wsL_law_r33 : List Cond := [Cond.fieldLink RX5 21 "VoiceHeaps$KeptVoices" "voices" "I", Cond.methodLink RX5 25 yX4_middleOf, Cond.methodLink RL 96 yX12_keep, Cond.instanceMethod yX12_keep, Cond.selects RX12 yX12_keep yX12_keep, Cond.code yX12_keep cX12_keep 5 (some .int), Cond.fieldLink RX12 252 "VoiceHeapsModel" "kept" "I", Cond.methodLink RL 97 yX11_forget, Cond.instanceMethod yX11_forget, Cond.selects RX11 yX11_forget yX11_forget, Cond.code yX11_forget cX11_forget 2 (some .int), Cond.methodLink RX11 240 yX5_has, Cond.instanceMethod yX5_has, Cond.selects RX5 yX5_has yX5_has, Cond.code yX5_has cX5_has 2 (some .boolean), Cond.methodLink RX11 243 yX5_remove, Cond.instanceMethod yX5_remove, Cond.selects RX5 yX5_remove yX5_remove, Cond.code yX5_remove cX5_remove 5 (some .int), Cond.methodLink RX5 31 yX5_has, Cond.methodLink RL 100 yX12_forget, Cond.instanceMethod yX12_forget, Cond.selects RX12 yX12_forget yX12_forget, Cond.code yX12_forget cX12_forget 5 (some .int)]
def wsL_law_r34 : List Cond := [Cond.methodLink RL 101 yX11_back, Cond.instanceMethod yX11_back, Cond.selects RX11 yX11_back yX11_back, Cond.code yX11_back cX11_back 5 (some .int), Cond.methodLink RX11 246 yX5_nearestTo, Cond.instanceMethod yX5_nearestTo, Cond.selects RX5 yX5_nearestTo yX5_nearestTo, Cond.code yX5_nearestTo cX5_nearestTo 8 (some .int), Cond.methodLink RL 104 yX12_back, Cond.instanceMethod yX12_back, Cond.selects RX12 yX12_back yX12_back, Cond.code yX12_back cX12_back 9 (some .int), Cond.methodLink RL 105 yX11_odds, Cond.instanceMethod yX11_odds, Cond.selects RX11 yX11_odds yX11_odds, Cond.code yX11_odds cX11_odds 5 (some .int), Cond.methodLink RX11 252 yX4_membersOf, Cond.instanceMethod yX4_membersOf, Cond.selects RX4 yX4_membersOf yX4_membersOf, Cond.code yX4_membersOf cX4_membersOf 5 (some .int), Cond.methodLink RX11 255 yX5_dealsOf, Cond.instanceMethod yX5_dealsOf, Cond.selects RX5 yX5_dealsOf yX5_dealsOf, Cond.code yX5_dealsOf cX5_dealsOf 9 (some .int)]
def wsL_law_r35 : List Cond := [Cond.methodLink RX5 45 Lib.Math.min.name, Cond.methodLink RX5 50 yX5_fillOffs, Cond.instanceMethod yX5_fillOffs, Cond.selects RX5 yX5_fillOffs yX5_fillOffs, Cond.code yX5_fillOffs cX5_fillOffs 8 none, Cond.methodLink RX5 54 yJ6_bitCount_0f7a4, Cond.static yJ6_bitCount_0f7a4, Cond.initialized RJ6, Cond.code yJ6_bitCount_0f7a4 cJ6_bitCount_0f7a4 1 (some .int), Cond.constant RJ6 265 (1431655765), Cond.constant RJ6 266 (858993459), Cond.constant RJ6 267 (252645135), Cond.methodLink RL 108 yX12_odds, Cond.instanceMethod yX12_odds, Cond.selects RX12 yX12_odds yX12_odds, Cond.code yX12_odds cX12_odds 9 (some .int), Cond.methodLink RX12 255 yX12_bitsIn, Cond.static yX12_bitsIn, Cond.code yX12_bitsIn cX12_bitsIn 3 (some .int), Cond.methodLink RX12 258 yX12_offsOf, Cond.instanceMethod yX12_offsOf, Cond.selects RX12 yX12_offsOf yX12_offsOf, Cond.code yX12_offsOf cX12_offsOf 6 (some .int), Cond.methodLink RL 109 yX11_show]
def wsL_law_r36 : List Cond := [Cond.instanceMethod yX11_show, Cond.selects RX11 yX11_show yX11_show, Cond.code yX11_show cX11_show 2 (some .int), Cond.methodLink RX11 259 yX11_heapOfRow, Cond.instanceMethod yX11_heapOfRow, Cond.selects RX11 yX11_heapOfRow yX11_heapOfRow, Cond.code yX11_heapOfRow cX11_heapOfRow 3 (some .int), Cond.methodLink RL 112 yX12_show, Cond.instanceMethod yX12_show, Cond.selects RX12 yX12_show yX12_show, Cond.code yX12_show cX12_show 2 (some .int), Cond.fieldLink RX12 264 "VoiceHeapsModel" "shown" "I", Cond.methodLink RX12 261 yX12_heapOfRow, Cond.instanceMethod yX12_heapOfRow, Cond.selects RX12 yX12_heapOfRow yX12_heapOfRow, Cond.code yX12_heapOfRow cX12_heapOfRow 2 (some .int), Cond.methodLink RL 113 yX11_otherwise, Cond.instanceMethod yX11_otherwise, Cond.selects RX11 yX11_otherwise yX11_otherwise, Cond.code yX11_otherwise cX11_otherwise 3 (some .int), Cond.methodLink RL 116 yX12_otherwise, Cond.instanceMethod yX12_otherwise, Cond.selects RX12 yX12_otherwise yX12_otherwise, Cond.code yX12_otherwise cX12_otherwise 3 (some .int)]
def wsL_law_r37 : List Cond := [Cond.methodLink RL 117 yX11_word, Cond.instanceMethod yX11_word, Cond.selects RX11 yX11_word yX11_word, Cond.code yX11_word cX11_word 3 (some .int), Cond.methodLink RX11 262 yX10_add, Cond.instanceMethod yX10_add, Cond.selects RX10 yX10_add yX10_add, Cond.code yX10_add cX10_add 3 (some .int), Cond.fieldLink RX10 18 "VoiceHeaps$WordBook" "words" "I", Cond.methodLink RL 120 yX12_word, Cond.instanceMethod yX12_word, Cond.selects RX12 yX12_word yX12_word, Cond.code yX12_word cX12_word 3 (some .int), Cond.methodLink RL 121 yX11_hung, Cond.instanceMethod yX11_hung, Cond.selects RX11 yX11_hung yX11_hung, Cond.code yX11_hung cX11_hung 3 (some .int), Cond.methodLink RX11 264 yX10_pieceWithMost, Cond.instanceMethod yX10_pieceWithMost, Cond.selects RX10 yX10_pieceWithMost yX10_pieceWithMost, Cond.code yX10_pieceWithMost cX10_pieceWithMost 7 (some .int), Cond.methodLink RX10 27 yX10_sharedRows, Cond.instanceMethod yX10_sharedRows, Cond.selects RX10 yX10_sharedRows yX10_sharedRows]
def wsL_law_r38 : List Cond := [Cond.code yX10_sharedRows cX10_sharedRows 6 (some .int), Cond.methodLink RX10 34 Lib.Math.max.name, Cond.methodLink RX10 43 Lib.Math.min.name, Cond.methodLink RX11 268 yX10_piecesWithSome, Cond.instanceMethod yX10_piecesWithSome, Cond.selects RX10 yX10_piecesWithSome yX10_piecesWithSome, Cond.code yX10_piecesWithSome cX10_piecesWithSome 5 (some .int), Cond.methodLink RL 124 yX12_hung, Cond.instanceMethod yX12_hung, Cond.selects RX12 yX12_hung yX12_hung, Cond.code yX12_hung cX12_hung 9 (some .int), Cond.methodLink RL 125 yX11_truth, Cond.instanceMethod yX11_truth, Cond.selects RX11 yX11_truth yX11_truth, Cond.code yX11_truth cX11_truth 4 (some .int), Cond.methodLink RX11 271 yX7_setTruth, Cond.instanceMethod yX7_setTruth, Cond.selects RX7 yX7_setTruth yX7_setTruth, Cond.code yX7_setTruth cX7_setTruth 6 (some .int), Cond.methodLink RL 128 yX12_truth, Cond.instanceMethod yX12_truth, Cond.selects RX12 yX12_truth yX12_truth, Cond.code yX12_truth cX12_truth 6 (some .int), Cond.methodLink RL 129 yX11_errors]
def wsL_law_r39 : List Cond := [Cond.instanceMethod yX11_errors, Cond.selects RX11 yX11_errors yX11_errors, Cond.code yX11_errors cX11_errors 2 (some .int), Cond.methodLink RX11 274 yX9_missed, Cond.instanceMethod yX9_missed, Cond.selects RX9 yX9_missed yX9_missed, Cond.code yX9_missed cX9_missed 5 (some .int), Cond.methodLink RX11 278 yX9_madeUp, Cond.instanceMethod yX9_madeUp, Cond.selects RX9 yX9_madeUp yX9_madeUp, Cond.code yX9_madeUp cX9_madeUp 5 (some .int), Cond.methodLink RX11 281 yX9_wrong, Cond.instanceMethod yX9_wrong, Cond.selects RX9 yX9_wrong yX9_wrong, Cond.code yX9_wrong cX9_wrong 7 (some .int), Cond.methodLink RX9 34 yX9_countTogether, Cond.instanceMethod yX9_countTogether, Cond.selects RX9 yX9_countTogether yX9_countTogether, Cond.code yX9_countTogether cX9_countTogether 8 (some .int), Cond.methodLink RX9 38 yJ7_fill_53178, Cond.methodLink RX9 49 yX9_giveOne, Cond.instanceMethod yX9_giveOne, Cond.selects RX9 yX9_giveOne yX9_giveOne, Cond.code yX9_giveOne cX9_giveOne 5 none]
def wsL_law_r40 : List Cond := [Cond.methodLink RX9 53 Lib.Math.max.name, Cond.methodLink RL 132 yX12_errors, Cond.instanceMethod yX12_errors, Cond.selects RX12 yX12_errors yX12_errors, Cond.code yX12_errors cX12_errors 7 (some .int), Cond.methodLink RX12 267 yX12_mostRight, Cond.instanceMethod yX12_mostRight, Cond.selects RX12 yX12_mostRight yX12_mostRight, Cond.code yX12_mostRight cX12_mostRight 6 (some .int), Cond.methodLink RL 133 yX11_weight, Cond.instanceMethod yX11_weight, Cond.selects RX11 yX11_weight yX11_weight, Cond.code yX11_weight cX11_weight 3 (some .int), Cond.methodLink RX11 288 yX6_weigh, Cond.instanceMethod yX6_weigh, Cond.selects RX6 yX6_weigh yX6_weigh, Cond.code yX6_weigh cX6_weigh 5 (some .int), Cond.methodLink RX6 7 yX6_span, Cond.instanceMethod yX6_span, Cond.selects RX6 yX6_span yX6_span, Cond.code yX6_span cX6_span 3 (some .int), Cond.fieldLink RX6 35 "VoiceHeaps$Kinds" "asked" "J", Cond.methodLink RX6 13 yX6_voice, Cond.instanceMethod yX6_voice]
def wsL_law_r41 : List Cond := [Cond.selects RX6 yX6_voice yX6_voice, Cond.code yX6_voice cX6_voice 3 (some .int), Cond.constantLong RX6 45 (10), Cond.methodLink RX6 47 yX2_middleOf, Cond.methodLink RX6 16 yX6_talk, Cond.instanceMethod yX6_talk, Cond.selects RX6 yX6_talk yX6_talk, Cond.code yX6_talk cX6_talk 3 (some .int), Cond.constantLong RX6 51 (100), Cond.methodLink RX6 19 yX6_two, Cond.instanceMethod yX6_two, Cond.selects RX6 yX6_two yX6_two, Cond.code yX6_two cX6_two 3 (some .int), Cond.constantLong RX6 56 (1000), Cond.methodLink RX6 22 yX6_brief, Cond.instanceMethod yX6_brief, Cond.selects RX6 yX6_brief yX6_brief, Cond.code yX6_brief cX6_brief 3 (some .int), Cond.constantLong RX6 58 (10000), Cond.methodLink RX6 60 Lib.Math.max.name, Cond.methodLink RX6 25 yX6_far, Cond.instanceMethod yX6_far, Cond.selects RX6 yX6_far yX6_far, Cond.code yX6_far cX6_far 3 (some .int)]
def wsL_law_r42 : List Cond := [Cond.constantLong RX6 65 (100000), Cond.methodLink RX6 28 yX6_known, Cond.instanceMethod yX6_known, Cond.selects RX6 yX6_known yX6_known, Cond.code yX6_known cX6_known 4 (some .int), Cond.constantLong RX6 67 (1000000), Cond.methodLink RX6 32 yX6_noise, Cond.instanceMethod yX6_noise, Cond.selects RX6 yX6_noise yX6_noise, Cond.code yX6_noise cX6_noise 4 (some .int), Cond.constantLong RX6 69 (10000000), Cond.methodLink RL 136 yX12_weight, Cond.instanceMethod yX12_weight, Cond.selects RX12 yX12_weight yX12_weight, Cond.code yX12_weight cX12_weight 6 (some .int), Cond.fieldLink RX12 270 "VoiceHeapsModel" "trace" "J", Cond.constantLong RX12 274 (11), Cond.constantLong RX12 276 (111), Cond.constantLong RX12 278 (1111), Cond.constantLong RX12 280 (10111), Cond.constantLong RX12 282 (100011), Cond.constantLong RX12 284 (1000011), Cond.constantLong RX12 286 (10000001), Cond.methodLink RL 137 yX11_count]
def wsL_law_r43 : List Cond := [Cond.instanceMethod yX11_count, Cond.selects RX11 yX11_count yX11_count, Cond.code yX11_count cX11_count 2 (some .int), Cond.methodLink RX11 292 yX7_deafRows, Cond.instanceMethod yX7_deafRows, Cond.selects RX7 yX7_deafRows yX7_deafRows, Cond.code yX7_deafRows cX7_deafRows 3 (some .int), Cond.methodLink RX11 295 yX7_outRows, Cond.instanceMethod yX7_outRows, Cond.selects RX7 yX7_outRows yX7_outRows, Cond.code yX7_outRows cX7_outRows 3 (some .int), Cond.methodLink RL 140 yX12_count, Cond.instanceMethod yX12_count, Cond.selects RX12 yX12_count yX12_count, Cond.code yX12_count cX12_count 4 (some .int), Cond.methodLink RL 141 yX11_trace, Cond.instanceMethod yX11_trace, Cond.selects RX11 yX11_trace yX11_trace, Cond.code yX11_trace cX11_trace 1 (some .long), Cond.methodLink RL 145 yX12_trace, Cond.instanceMethod yX12_trace, Cond.selects RX12 yX12_trace yX12_trace, Cond.code yX12_trace cX12_trace 1 (some .long)]
def wsL_law : List Cond := (wsL_law_r1 ++ (wsL_law_r2 ++ (wsL_law_r3 ++ (wsL_law_r4 ++ (wsL_law_r5 ++ (wsL_law_r6 ++ (wsL_law_r7 ++ (wsL_law_r8 ++ (wsL_law_r9 ++ (wsL_law_r10 ++ (wsL_law_r11 ++ (wsL_law_r12 ++ (wsL_law_r13 ++ (wsL_law_r14 ++ (wsL_law_r15 ++ (wsL_law_r16 ++ (wsL_law_r17 ++ (wsL_law_r18 ++ (wsL_law_r19 ++ (wsL_law_r20 ++ (wsL_law_r21 ++ (wsL_law_r22 ++ (wsL_law_r23 ++ (wsL_law_r24 ++ (wsL_law_r25 ++ (wsL_law_r26 ++ (wsL_law_r27 ++ (wsL_law_r28 ++ (wsL_law_r29 ++ (wsL_law_r30 ++ (wsL_law_r31 ++ (wsL_law_r32 ++ (wsL_law_r33 ++ (wsL_law_r34 ++ (wsL_law_r35 ++ (wsL_law_r36 ++ (wsL_law_r37 ++ (wsL_law_r38 ++ (wsL_law_r39 ++ (wsL_law_r40 ++ (wsL_law_r41 ++ (wsL_law_r42 ++ wsL_law_r43)))))))))))))))))))))))))))))))))))))))))) ++ wsX110 ++ wsX120 ++ wsX80 ++ wsX70 ++ wsX30 ++ wsX20 ++ wsX10 ++ wsX00 ++ wsX40 ++ wsX50 ++ wsX100 ++ wsX90 ++ wsX60 ++ ([] : List Cond)
theorem inlX0 : ∀ w ∈ wsX00, w ∈ wsL_law := fun _ h => List.mem_append_left _ (List.mem_append_left _ (List.mem_append_left _ (List.mem_append_left _ (List.mem_append_left _ (List.mem_append_left _ (List.mem_append_right _ h))))))
theorem inlX1 : ∀ w ∈ wsX10, w ∈ wsL_law := fun _ h => List.mem_append_left _ (List.mem_append_left _ (List.mem_append_left _ (List.mem_append_left _ (List.mem_append_left _ (List.mem_append_left _ (List.mem_append_left _ (List.mem_append_right _ h)))))))
theorem inlX2 : ∀ w ∈ wsX20, w ∈ wsL_law := fun _ h => List.mem_append_left _ (List.mem_append_left _ (List.mem_append_left _ (List.mem_append_left _ (List.mem_append_left _ (List.mem_append_left _ (List.mem_append_left _ (List.mem_append_left _ (List.mem_append_right _ h))))))))
theorem inlX3 : ∀ w ∈ wsX30, w ∈ wsL_law := fun _ h => List.mem_append_left _ (List.mem_append_left _ (List.mem_append_left _ (List.mem_append_left _ (List.mem_append_left _ (List.mem_append_left _ (List.mem_append_left _ (List.mem_append_left _ (List.mem_append_left _ (List.mem_append_right _ h)))))))))
theorem inlX4 : ∀ w ∈ wsX40, w ∈ wsL_law := fun _ h => List.mem_append_left _ (List.mem_append_left _ (List.mem_append_left _ (List.mem_append_left _ (List.mem_append_left _ (List.mem_append_right _ h)))))
theorem inlX5 : ∀ w ∈ wsX50, w ∈ wsL_law := fun _ h => List.mem_append_left _ (List.mem_append_left _ (List.mem_append_left _ (List.mem_append_left _ (List.mem_append_right _ h))))
theorem inlX6 : ∀ w ∈ wsX60, w ∈ wsL_law := fun _ h => List.mem_append_left _ (List.mem_append_right _ h)
theorem inlX7 : ∀ w ∈ wsX70, w ∈ wsL_law := fun _ h => List.mem_append_left _ (List.mem_append_left _ (List.mem_append_left _ (List.mem_append_left _ (List.mem_append_left _ (List.mem_append_left _ (List.mem_append_left _ (List.mem_append_left _ (List.mem_append_left _ (List.mem_append_left _ (List.mem_append_right _ h))))))))))
theorem inlX8 : ∀ w ∈ wsX80, w ∈ wsL_law := fun _ h => List.mem_append_left _ (List.mem_append_left _ (List.mem_append_left _ (List.mem_append_left _ (List.mem_append_left _ (List.mem_append_left _ (List.mem_append_left _ (List.mem_append_left _ (List.mem_append_left _ (List.mem_append_left _ (List.mem_append_left _ (List.mem_append_right _ h)))))))))))
theorem inlX9 : ∀ w ∈ wsX90, w ∈ wsL_law := fun _ h => List.mem_append_left _ (List.mem_append_left _ (List.mem_append_right _ h))
theorem inlX10 : ∀ w ∈ wsX100, w ∈ wsL_law := fun _ h => List.mem_append_left _ (List.mem_append_left _ (List.mem_append_left _ (List.mem_append_right _ h)))
theorem inlX11 : ∀ w ∈ wsX110, w ∈ wsL_law := fun _ h => List.mem_append_left _ (List.mem_append_left _ (List.mem_append_left _ (List.mem_append_left _ (List.mem_append_left _ (List.mem_append_left _ (List.mem_append_left _ (List.mem_append_left _ (List.mem_append_left _ (List.mem_append_left _ (List.mem_append_left _ (List.mem_append_left _ (List.mem_append_left _ (List.mem_append_right _ h)))))))))))))
theorem inlX12 : ∀ w ∈ wsX120, w ∈ wsL_law := fun _ h => List.mem_append_left _ (List.mem_append_left _ (List.mem_append_left _ (List.mem_append_left _ (List.mem_append_left _ (List.mem_append_left _ (List.mem_append_left _ (List.mem_append_left _ (List.mem_append_left _ (List.mem_append_left _ (List.mem_append_left _ (List.mem_append_left _ (List.mem_append_right _ h))))))))))))
theorem inJx145de : ∀ w ∈ wsJx145de0, w ∈ lw_tbl := by decide +kernel
theorem inJx9f9b0 : ∀ w ∈ wsJx9f9b00, w ∈ lw_tbl := by decide +kernel
theorem inJxb160c : ∀ w ∈ wsJxb160c0, w ∈ lw_tbl := by decide +kernel
theorem inJ6 : ∀ w ∈ wsJ60, w ∈ lw_tbl := by decide +kernel
theorem inJ9 : ∀ w ∈ wsJ90, w ∈ lw_tbl := by decide +kernel
theorem inJ0 : ∀ w ∈ wsJ00, w ∈ lw_tbl := by decide +kernel
theorem inJ1 : ∀ w ∈ wsJ10, w ∈ lw_tbl := by decide +kernel
theorem inJ2 : ∀ w ∈ wsJ20, w ∈ lw_tbl := by decide +kernel
theorem inJxfd54e : ∀ w ∈ wsJxfd54e0, w ∈ lw_tbl := by decide +kernel
theorem inJx3cf43 : ∀ w ∈ wsJx3cf430, w ∈ lw_tbl := by decide +kernel
theorem inJ7 : ∀ w ∈ wsJ70, w ∈ lw_tbl := by decide +kernel
theorem inJ3 : ∀ w ∈ wsJ30, w ∈ lw_tbl := by decide +kernel
set_option maxRecDepth 20000 in
theorem ggJ0_length_8abf5_J0_coder_7d493 : GoodIn wsJ0_length_8abf5 wsJ0_coder_7d493 := goodIn_r _ [6, 7, 8] (by decide +kernel) (by decide +kernel)
set_option maxRecDepth 20000 in
theorem gJ0_length_8abf5_J0_coder_7d493 : GoodIn wsJ0_length_8abf5 (wsV RJ0 335 RJ0 yJ0_coder_7d493 wsJ0_coder_7d493) := goodIn_app (goodIn_of _ (by decide +kernel)) ggJ0_length_8abf5_J0_coder_7d493
set_option maxRecDepth 20000 in
theorem ggJ0_charAt_5068e_J0_isLatin1_aae02 : GoodIn wsJ0_charAt_5068e wsJ0_isLatin1_aae02 := goodIn_r _ [6, 7, 8] (by decide +kernel) (by decide +kernel)
set_option maxRecDepth 20000 in
theorem gJ0_charAt_5068e_J0_isLatin1_aae02 : GoodIn wsJ0_charAt_5068e (wsV RJ0 492 RJ0 yJ0_isLatin1_aae02 wsJ0_isLatin1_aae02) := goodIn_app (goodIn_of _ (by decide +kernel)) ggJ0_charAt_5068e_J0_isLatin1_aae02
set_option maxRecDepth 20000 in
theorem ggJ0_charAt_5068e_J1_charAt_3b067 : GoodIn wsJ0_charAt_5068e wsJ1_charAt_3b067 := goodIn_r _ [12, 13, 14, 5, 15, 16, 17, 18, 19, 20] (by decide +kernel) (by decide +kernel)
set_option maxRecDepth 20000 in
theorem gJ0_charAt_5068e_J1_charAt_3b067 : GoodIn wsJ0_charAt_5068e (va_wsS RJ0 495 yJ1_charAt_3b067 wsJ1_charAt_3b067) := goodIn_app (goodIn_of _ (by decide +kernel)) ggJ0_charAt_5068e_J1_charAt_3b067
set_option maxRecDepth 20000 in
theorem ggJ0_charAt_5068e_J2_charAt_3b067 : GoodIn wsJ0_charAt_5068e wsJ2_charAt_3b067 := goodIn_r _ [24, 25, 26, 23, 27, 28, 29, 30, 31, 14, 5, 15, 16, 17, 18, 19, 20, 32, 33, 34, 35, 36, 37] (by decide +kernel) (by decide +kernel)
set_option maxRecDepth 20000 in
theorem gJ0_charAt_5068e_J2_charAt_3b067 : GoodIn wsJ0_charAt_5068e (va_wsS RJ0 498 yJ2_charAt_3b067 wsJ2_charAt_3b067) := goodIn_app (goodIn_of _ (by decide +kernel)) ggJ0_charAt_5068e_J2_charAt_3b067
set_option maxRecDepth 20000 in
theorem ggJ0_checkIndex_df160_J3_checkIndex_8e157 : GoodIn wsJ0_checkIndex_df160 wsJ3_checkIndex_8e157 := goodIn_r _ [5] (by decide +kernel) (by decide +kernel)
set_option maxRecDepth 20000 in
theorem gJ0_checkIndex_df160_J3_checkIndex_8e157 : GoodIn wsJ0_checkIndex_df160 (va_wsS RJ0 1059 yJ3_checkIndex_8e157 wsJ3_checkIndex_8e157) := goodIn_app (goodIn_of _ (by decide +kernel)) ggJ0_checkIndex_df160_J3_checkIndex_8e157
set_option maxRecDepth 20000 in
theorem ggJ1_charAt_3b067_J0_checkIndex_df160 : GoodIn wsJ1_charAt_3b067 wsJ0_checkIndex_df160 := goodIn_r _ [4, 5, 6, 7, 8, 9] (by decide +kernel) (by decide +kernel)
set_option maxRecDepth 20000 in
theorem gJ1_charAt_3b067_J0_checkIndex_df160 : GoodIn wsJ1_charAt_3b067 (va_wsS RJ1 9 yJ0_checkIndex_df160 wsJ0_checkIndex_df160) := goodIn_app (goodIn_of _ (by decide +kernel)) ggJ1_charAt_3b067_J0_checkIndex_df160
set_option maxRecDepth 20000 in
theorem ggJ2_getChar_3b067_J2_length_9d52b : GoodIn wsJ2_getChar_3b067 wsJ2_length_9d52b := goodIn_r _ [7] (by decide +kernel) (by decide +kernel)
set_option maxRecDepth 20000 in
theorem gJ2_getChar_3b067_J2_length_9d52b : GoodIn wsJ2_getChar_3b067 (va_wsS RJ2 48 yJ2_length_9d52b wsJ2_length_9d52b) := goodIn_app (goodIn_of _ (by decide +kernel)) ggJ2_getChar_3b067_J2_length_9d52b
set_option maxRecDepth 20000 in
theorem ggJ2_charAt_3b067_J2_checkIndex_2214a : GoodIn wsJ2_charAt_3b067 wsJ2_checkIndex_2214a := goodIn_r _ [4, 5, 6, 3, 7, 8, 9, 10, 11, 12, 13, 14, 15, 16] (by decide +kernel) (by decide +kernel)
set_option maxRecDepth 20000 in
theorem gJ2_charAt_3b067_J2_checkIndex_2214a : GoodIn wsJ2_charAt_3b067 (va_wsS RJ2 67 yJ2_checkIndex_2214a wsJ2_checkIndex_2214a) := goodIn_app (goodIn_of _ (by decide +kernel)) ggJ2_charAt_3b067_J2_checkIndex_2214a
set_option maxRecDepth 20000 in
theorem ggJ2_charAt_3b067_J2_getChar_3b067 : GoodIn wsJ2_charAt_3b067 wsJ2_getChar_3b067 := goodIn_r _ [19, 20, 21, 22, 5, 6, 3, 7] (by decide +kernel) (by decide +kernel)
set_option maxRecDepth 20000 in
theorem gJ2_charAt_3b067_J2_getChar_3b067 : GoodIn wsJ2_charAt_3b067 (va_wsS RJ2 71 yJ2_getChar_3b067 wsJ2_getChar_3b067) := goodIn_app (goodIn_of _ (by decide +kernel)) ggJ2_charAt_3b067_J2_getChar_3b067
set_option maxRecDepth 20000 in
theorem ggJ2_checkIndex_2214a_J2_length_9d52b : GoodIn wsJ2_checkIndex_2214a wsJ2_length_9d52b := goodIn_r _ [4] (by decide +kernel) (by decide +kernel)
set_option maxRecDepth 20000 in
theorem gJ2_checkIndex_2214a_J2_length_9d52b : GoodIn wsJ2_checkIndex_2214a (va_wsS RJ2 48 yJ2_length_9d52b wsJ2_length_9d52b) := goodIn_app (goodIn_of _ (by decide +kernel)) ggJ2_checkIndex_2214a_J2_length_9d52b
set_option maxRecDepth 20000 in
theorem ggJ2_checkIndex_2214a_J0_checkIndex_df160 : GoodIn wsJ2_checkIndex_2214a wsJ0_checkIndex_df160 := goodIn_r _ [8, 9, 10, 11, 12, 13] (by decide +kernel) (by decide +kernel)
set_option maxRecDepth 20000 in
theorem gJ2_checkIndex_2214a_J0_checkIndex_df160 : GoodIn wsJ2_checkIndex_2214a (va_wsS RJ2 414 yJ0_checkIndex_df160 wsJ0_checkIndex_df160) := goodIn_app (goodIn_of _ (by decide +kernel)) ggJ2_checkIndex_2214a_J0_checkIndex_df160
abbrev vwCl : List vw_C := [(RX0, TX0, 10), (RX1, TX1, 4), (RX2, TX2, 12), (RX3, TX3, 3), (RX4, TX4, 5), (RX5, TX5, 4), (RX6, TX6, 1), (RX7, TX7, 5), (RX8, TX8, 5), (RX9, TX9, 2), (RX10, TX10, 3), (RX11, TX11, 16), (RX12, TX12, 45)]
end
section
set_option maxRecDepth 20000 in
theorem ggX0_findBest_J7_fill_53178 : GoodIn wsX0_findBest wsJ7_fill_53178 := goodIn_r _ [8] (by decide +kernel) (by decide +kernel)
set_option maxRecDepth 20000 in
theorem gX0_findBest_J7_fill_53178 : GoodIn wsX0_findBest (va_wsS RX0 34 yJ7_fill_53178 wsJ7_fill_53178) := goodIn_app (goodIn_of _ (by decide +kernel)) ggX0_findBest_J7_fill_53178
set_option maxRecDepth 20000 in
theorem ggX0_findBest_X0_deal : GoodIn wsX0_findBest wsX0_deal := goodIn_r _ [12, 4, 13, 14, 15, 16, 17, 18, 19, 20, 11, 21, 1, 2, 22, 23, 24, 25, 26, 27, 28, 29, 30, 31, 32, 33, 34, 35, 36, 37, 38, 39, 40, 41, 42, 43, 9, 10, 59, 60, 61, 62, 44, 45, 46, 47, 48, 49, 50, 51, 52, 53, 54, 55, 56, 57, 58] (by decide +kernel) (by decide +kernel)
set_option maxRecDepth 20000 in
theorem gX0_findBest_X0_deal : GoodIn wsX0_findBest (va_wsS RX0 40 yX0_deal wsX0_deal) := goodIn_app (goodIn_of _ (by decide +kernel)) ggX0_findBest_X0_deal
theorem dX0_findBest_0 : decode cX0_findBest 0 = .ok (.aload_n 0, 1) := by decide +kernel
theorem dX0_findBest_1 : decode cX0_findBest 1 = .ok (.iconst 0, 1) := by decide +kernel
theorem dX0_findBest_2 : decode cX0_findBest 2 = .ok (.putfield 25, 3) := by decide +kernel
theorem dX0_findBest_5 : decode cX0_findBest 5 = .ok (.aload_n 0, 1) := by decide +kernel
theorem dX0_findBest_6 : decode cX0_findBest 6 = .ok (.getfield 12, 3) := by decide +kernel
theorem dX0_findBest_9 : decode cX0_findBest 9 = .ok (.ldc 29, 2) := by decide +kernel
theorem dX0_findBest_11 : decode cX0_findBest 11 = .ok (.putfield 30, 3) := by decide +kernel
theorem dX0_findBest_14 : decode cX0_findBest 14 = .ok (.aload_n 0, 1) := by decide +kernel
theorem dX0_findBest_15 : decode cX0_findBest 15 = .ok (.getfield 22, 3) := by decide +kernel
theorem dX0_findBest_18 : decode cX0_findBest 18 = .ok (.iconst 0, 1) := by decide +kernel
theorem dX0_findBest_19 : decode cX0_findBest 19 = .ok (.invokestatic 34, 3) := by decide +kernel
theorem dX0_findBest_22 : decode cX0_findBest 22 = .ok (.aload_n 0, 1) := by decide +kernel
theorem dX0_findBest_23 : decode cX0_findBest 23 = .ok (.aload_n 1, 1) := by decide +kernel
theorem dX0_findBest_24 : decode cX0_findBest 24 = .ok (.iconst 0, 1) := by decide +kernel
theorem dX0_findBest_25 : decode cX0_findBest 25 = .ok (.iconst 0, 1) := by decide +kernel
theorem dX0_findBest_26 : decode cX0_findBest 26 = .ok (.iconst 0, 1) := by decide +kernel
theorem dX0_findBest_27 : decode cX0_findBest 27 = .ok (.lconst 0, 1) := by decide +kernel
theorem dX0_findBest_28 : decode cX0_findBest 28 = .ok (.invokestatic 40, 3) := by decide +kernel
theorem dX0_findBest_31 : decode cX0_findBest 31 = .ok (.return_, 1) := by decide +kernel
set_option maxRecDepth 20000 in
theorem ggX0_findNear_J7_fill_53178 : GoodIn wsX0_findNear wsJ7_fill_53178 := goodIn_r _ [14] (by decide +kernel) (by decide +kernel)
set_option maxRecDepth 20000 in
theorem gX0_findNear_J7_fill_53178 : GoodIn wsX0_findNear (va_wsS RX0 34 yJ7_fill_53178 wsJ7_fill_53178) := goodIn_app (goodIn_of _ (by decide +kernel)) ggX0_findNear_J7_fill_53178
set_option maxRecDepth 20000 in
theorem ggX0_findNear_X0_deal : GoodIn wsX0_findNear wsX0_deal := goodIn_r _ [18, 10, 19, 20, 21, 22, 23, 24, 25, 26, 17, 27, 1, 2, 28, 29, 30, 31, 3, 4, 5, 32, 33, 34, 6, 8, 9, 35, 36, 37, 38, 39, 40, 41, 42, 43, 15, 16, 59, 60, 61, 62, 44, 45, 46, 47, 48, 49, 50, 51, 52, 53, 54, 55, 56, 57, 58] (by decide +kernel) (by decide +kernel)
set_option maxRecDepth 20000 in
theorem gX0_findNear_X0_deal : GoodIn wsX0_findNear (va_wsS RX0 40 yX0_deal wsX0_deal) := goodIn_app (goodIn_of _ (by decide +kernel)) ggX0_findNear_X0_deal
theorem dX0_findNear_0 : decode cX0_findNear 0 = .ok (.aload_n 0, 1) := by decide +kernel
theorem dX0_findNear_1 : decode cX0_findNear 1 = .ok (.iconst 1, 1) := by decide +kernel
theorem dX0_findNear_2 : decode cX0_findNear 2 = .ok (.putfield 25, 3) := by decide +kernel
theorem dX0_findNear_5 : decode cX0_findNear 5 = .ok (.aload_n 0, 1) := by decide +kernel
theorem dX0_findNear_6 : decode cX0_findNear 6 = .ok (.aload_n 0, 1) := by decide +kernel
theorem dX0_findNear_7 : decode cX0_findNear 7 = .ok (.getfield 12, 3) := by decide +kernel
theorem dX0_findNear_10 : decode cX0_findNear 10 = .ok (.getfield 30, 3) := by decide +kernel
theorem dX0_findNear_13 : decode cX0_findNear 13 = .ok (.iload_n 2, 1) := by decide +kernel
theorem dX0_findNear_14 : decode cX0_findNear 14 = .ok (.isub, 1) := by decide +kernel
theorem dX0_findNear_15 : decode cX0_findNear 15 = .ok (.putfield 44, 3) := by decide +kernel
theorem dX0_findNear_18 : decode cX0_findNear 18 = .ok (.aload_n 0, 1) := by decide +kernel
theorem dX0_findNear_19 : decode cX0_findNear 19 = .ok (.iconst 0, 1) := by decide +kernel
theorem dX0_findNear_20 : decode cX0_findNear 20 = .ok (.putfield 47, 3) := by decide +kernel
theorem dX0_findNear_23 : decode cX0_findNear 23 = .ok (.aload_n 0, 1) := by decide +kernel
theorem dX0_findNear_24 : decode cX0_findNear 24 = .ok (.bipush 9, 2) := by decide +kernel
theorem dX0_findNear_26 : decode cX0_findNear 26 = .ok (.putfield 50, 3) := by decide +kernel
theorem dX0_findNear_29 : decode cX0_findNear 29 = .ok (.aload_n 0, 1) := by decide +kernel
theorem dX0_findNear_30 : decode cX0_findNear 30 = .ok (.iconst 0, 1) := by decide +kernel
theorem dX0_findNear_31 : decode cX0_findNear 31 = .ok (.putfield 53, 3) := by decide +kernel
theorem dX0_findNear_34 : decode cX0_findNear 34 = .ok (.aload_n 0, 1) := by decide +kernel
theorem dX0_findNear_35 : decode cX0_findNear 35 = .ok (.ldc2_w 56, 3) := by decide +kernel
theorem dX0_findNear_38 : decode cX0_findNear 38 = .ok (.putfield 58, 3) := by decide +kernel
theorem dX0_findNear_41 : decode cX0_findNear 41 = .ok (.aload_n 0, 1) := by decide +kernel
theorem dX0_findNear_42 : decode cX0_findNear 42 = .ok (.lconst 0, 1) := by decide +kernel
theorem dX0_findNear_43 : decode cX0_findNear 43 = .ok (.putfield 62, 3) := by decide +kernel
theorem dX0_findNear_46 : decode cX0_findNear 46 = .ok (.aload_n 0, 1) := by decide +kernel
theorem dX0_findNear_47 : decode cX0_findNear 47 = .ok (.getfield 22, 3) := by decide +kernel
theorem dX0_findNear_50 : decode cX0_findNear 50 = .ok (.iconst 0, 1) := by decide +kernel
theorem dX0_findNear_51 : decode cX0_findNear 51 = .ok (.invokestatic 34, 3) := by decide +kernel
theorem dX0_findNear_54 : decode cX0_findNear 54 = .ok (.aload_n 0, 1) := by decide +kernel
theorem dX0_findNear_55 : decode cX0_findNear 55 = .ok (.aload_n 1, 1) := by decide +kernel
theorem dX0_findNear_56 : decode cX0_findNear 56 = .ok (.iconst 0, 1) := by decide +kernel
theorem dX0_findNear_57 : decode cX0_findNear 57 = .ok (.iconst 0, 1) := by decide +kernel
theorem dX0_findNear_58 : decode cX0_findNear 58 = .ok (.iconst 0, 1) := by decide +kernel
theorem dX0_findNear_59 : decode cX0_findNear 59 = .ok (.lconst 0, 1) := by decide +kernel
theorem dX0_findNear_60 : decode cX0_findNear 60 = .ok (.invokestatic 40, 3) := by decide +kernel
theorem dX0_findNear_63 : decode cX0_findNear 63 = .ok (.return_, 1) := by decide +kernel
set_option maxRecDepth 20000 in
theorem ggX0_deal_X0_meet : GoodIn wsX0_deal wsX0_meet := goodIn_r _ [11, 12, 13, 2, 14, 15, 16, 10, 17, 18, 19, 20, 21, 22, 5, 23, 24, 3, 4, 6, 25, 26, 42, 43, 44, 45, 46, 47, 48, 49, 50, 51, 52, 53, 54, 55, 56] (by decide +kernel) (by decide +kernel)
set_option maxRecDepth 20000 in
theorem gX0_deal_X0_meet : GoodIn wsX0_deal (wsV RX0 70 RX0 yX0_meet wsX0_meet) := goodIn_app (goodIn_of _ (by decide +kernel)) ggX0_deal_X0_meet
theorem dX0_deal_0 : decode cX0_deal 0 = .ok (.iload_n 2, 1) := by decide +kernel
theorem dX0_deal_1 : decode cX0_deal 1 = .ok (.aload_n 1, 1) := by decide +kernel
theorem dX0_deal_2 : decode cX0_deal 2 = .ok (.getfield 65, 3) := by decide +kernel
theorem dX0_deal_5 : decode cX0_deal 5 = .ok (.if_icmp .ge 9, 3) := by decide +kernel
theorem dX0_deal_14 : decode cX0_deal 14 = .ok (.aload_n 0, 1) := by decide +kernel
theorem dX0_deal_15 : decode cX0_deal 15 = .ok (.aload_n 1, 1) := by decide +kernel
theorem dX0_deal_16 : decode cX0_deal 16 = .ok (.getfield 65, 3) := by decide +kernel
theorem dX0_deal_19 : decode cX0_deal 19 = .ok (.iload_n 3, 1) := by decide +kernel
theorem dX0_deal_20 : decode cX0_deal 20 = .ok (.iload 4, 2) := by decide +kernel
theorem dX0_deal_22 : decode cX0_deal 22 = .ok (.lload 5, 2) := by decide +kernel
theorem dX0_deal_24 : decode cX0_deal 24 = .ok (.invokevirtual 70, 3) := by decide +kernel
theorem dX0_deal_27 : decode cX0_deal 27 = .ok (.return_, 1) := by decide +kernel
set_option maxRecDepth 20000 in
theorem ggX0_meet_X0_meetNear : GoodIn wsX0_meet wsX0_meetNear := goodIn_r _ [8, 9, 10, 11, 12, 13, 14, 15, 16, 17, 18, 19, 20, 21, 22, 23, 24, 25, 26, 27, 28, 29, 30, 31] (by decide +kernel) (by decide +kernel)
set_option maxRecDepth 20000 in
theorem gX0_meet_X0_meetNear : GoodIn wsX0_meet (wsV RX0 87 RX0 yX0_meetNear wsX0_meetNear) := goodIn_app (goodIn_of _ (by decide +kernel)) ggX0_meet_X0_meetNear
theorem dX0_meet_0 : decode cX0_meet 0 = .ok (.aload_n 0, 1) := by decide +kernel
theorem dX0_meet_1 : decode cX0_meet 1 = .ok (.getfield 25, 3) := by decide +kernel
theorem dX0_meet_4 : decode cX0_meet 4 = .ok (.ifCond .eq 14, 3) := by decide +kernel
theorem dX0_meet_7 : decode cX0_meet 7 = .ok (.aload_n 0, 1) := by decide +kernel
theorem dX0_meet_8 : decode cX0_meet 8 = .ok (.iload_n 2, 1) := by decide +kernel
theorem dX0_meet_9 : decode cX0_meet 9 = .ok (.iload_n 3, 1) := by decide +kernel
theorem dX0_meet_10 : decode cX0_meet 10 = .ok (.lload 4, 2) := by decide +kernel
theorem dX0_meet_12 : decode cX0_meet 12 = .ok (.invokevirtual 87, 3) := by decide +kernel
theorem dX0_meet_15 : decode cX0_meet 15 = .ok (.goto 69, 3) := by decide +kernel
theorem dX0_meet_18 : decode cX0_meet 18 = .ok (.iload_n 3, 1) := by decide +kernel
theorem dX0_meet_19 : decode cX0_meet 19 = .ok (.aload_n 0, 1) := by decide +kernel
theorem dX0_meet_20 : decode cX0_meet 20 = .ok (.getfield 12, 3) := by decide +kernel
theorem dX0_meet_23 : decode cX0_meet 23 = .ok (.getfield 30, 3) := by decide +kernel
theorem dX0_meet_26 : decode cX0_meet 26 = .ok (.if_icmp .le 58, 3) := by decide +kernel
theorem dX0_meet_29 : decode cX0_meet 29 = .ok (.aload_n 0, 1) := by decide +kernel
theorem dX0_meet_30 : decode cX0_meet 30 = .ok (.getfield 12, 3) := by decide +kernel
theorem dX0_meet_33 : decode cX0_meet 33 = .ok (.iload_n 3, 1) := by decide +kernel
theorem dX0_meet_34 : decode cX0_meet 34 = .ok (.putfield 30, 3) := by decide +kernel
theorem dX0_meet_37 : decode cX0_meet 37 = .ok (.aload_n 0, 1) := by decide +kernel
theorem dX0_meet_38 : decode cX0_meet 38 = .ok (.getfield 12, 3) := by decide +kernel
theorem dX0_meet_41 : decode cX0_meet 41 = .ok (.iload_n 2, 1) := by decide +kernel
theorem dX0_meet_42 : decode cX0_meet 42 = .ok (.putfield 91, 3) := by decide +kernel
theorem dX0_meet_45 : decode cX0_meet 45 = .ok (.iconst 0, 1) := by decide +kernel
theorem dX0_meet_46 : decode cX0_meet 46 = .ok (.istore 6, 2) := by decide +kernel
theorem dX0_meet_48 : decode cX0_meet 48 = .ok (.iload 6, 2) := by decide +kernel
theorem dX0_meet_50 : decode cX0_meet 50 = .ok (.iload_n 1, 1) := by decide +kernel
theorem dX0_meet_51 : decode cX0_meet 51 = .ok (.if_icmp .ge 33, 3) := by decide +kernel
theorem dX0_meet_84 : decode cX0_meet 84 = .ok (.return_, 1) := by decide +kernel
theorem dX0_meetNear_0 : decode cX0_meetNear 0 = .ok (.iload_n 2, 1) := by decide +kernel
theorem dX0_meetNear_1 : decode cX0_meetNear 1 = .ok (.aload_n 0, 1) := by decide +kernel
theorem dX0_meetNear_2 : decode cX0_meetNear 2 = .ok (.getfield 44, 3) := by decide +kernel
theorem dX0_meetNear_5 : decode cX0_meetNear 5 = .ok (.if_icmp .lt 57, 3) := by decide +kernel
theorem dX0_meetNear_8 : decode cX0_meetNear 8 = .ok (.aload_n 0, 1) := by decide +kernel
theorem dX0_meetNear_9 : decode cX0_meetNear 9 = .ok (.dup, 1) := by decide +kernel
theorem dX0_meetNear_10 : decode cX0_meetNear 10 = .ok (.getfield 47, 3) := by decide +kernel
theorem dX0_meetNear_13 : decode cX0_meetNear 13 = .ok (.iconst 1, 1) := by decide +kernel
theorem dX0_meetNear_14 : decode cX0_meetNear 14 = .ok (.iadd, 1) := by decide +kernel
theorem dX0_meetNear_15 : decode cX0_meetNear 15 = .ok (.putfield 47, 3) := by decide +kernel
theorem dX0_meetNear_18 : decode cX0_meetNear 18 = .ok (.aload_n 0, 1) := by decide +kernel
theorem dX0_meetNear_19 : decode cX0_meetNear 19 = .ok (.aload_n 0, 1) := by decide +kernel
theorem dX0_meetNear_20 : decode cX0_meetNear 20 = .ok (.getfield 50, 3) := by decide +kernel
theorem dX0_meetNear_23 : decode cX0_meetNear 23 = .ok (.iload_n 1, 1) := by decide +kernel
theorem dX0_meetNear_24 : decode cX0_meetNear 24 = .ok (.invokestatic 95, 3) := by decide +kernel
theorem dX0_meetNear_27 : decode cX0_meetNear 27 = .ok (.putfield 50, 3) := by decide +kernel
theorem dX0_meetNear_30 : decode cX0_meetNear 30 = .ok (.aload_n 0, 1) := by decide +kernel
theorem dX0_meetNear_31 : decode cX0_meetNear 31 = .ok (.aload_n 0, 1) := by decide +kernel
theorem dX0_meetNear_32 : decode cX0_meetNear 32 = .ok (.getfield 53, 3) := by decide +kernel
theorem dX0_meetNear_35 : decode cX0_meetNear 35 = .ok (.iload_n 1, 1) := by decide +kernel
theorem dX0_meetNear_36 : decode cX0_meetNear 36 = .ok (.invokestatic 74, 3) := by decide +kernel
theorem dX0_meetNear_39 : decode cX0_meetNear 39 = .ok (.putfield 53, 3) := by decide +kernel
theorem dX0_meetNear_42 : decode cX0_meetNear 42 = .ok (.aload_n 0, 1) := by decide +kernel
theorem dX0_meetNear_43 : decode cX0_meetNear 43 = .ok (.dup, 1) := by decide +kernel
theorem dX0_meetNear_44 : decode cX0_meetNear 44 = .ok (.getfield 58, 3) := by decide +kernel
theorem dX0_meetNear_47 : decode cX0_meetNear 47 = .ok (.lload_n 3, 1) := by decide +kernel
theorem dX0_meetNear_48 : decode cX0_meetNear 48 = .ok (.land, 1) := by decide +kernel
theorem dX0_meetNear_49 : decode cX0_meetNear 49 = .ok (.putfield 58, 3) := by decide +kernel
theorem dX0_meetNear_52 : decode cX0_meetNear 52 = .ok (.aload_n 0, 1) := by decide +kernel
theorem dX0_meetNear_53 : decode cX0_meetNear 53 = .ok (.dup, 1) := by decide +kernel
theorem dX0_meetNear_54 : decode cX0_meetNear 54 = .ok (.getfield 62, 3) := by decide +kernel
theorem dX0_meetNear_57 : decode cX0_meetNear 57 = .ok (.lload_n 3, 1) := by decide +kernel
theorem dX0_meetNear_58 : decode cX0_meetNear 58 = .ok (.lor, 1) := by decide +kernel
theorem dX0_meetNear_59 : decode cX0_meetNear 59 = .ok (.putfield 62, 3) := by decide +kernel
theorem dX0_meetNear_62 : decode cX0_meetNear 62 = .ok (.return_, 1) := by decide +kernel
theorem dX1_tie_0 : decode cX1_tie 0 = .ok (.aload_n 0, 1) := by decide +kernel
theorem dX1_tie_1 : decode cX1_tie 1 = .ok (.aload_n 1, 1) := by decide +kernel
theorem dX1_tie_2 : decode cX1_tie 2 = .ok (.getfield 23, 3) := by decide +kernel
theorem dX1_tie_5 : decode cX1_tie 5 = .ok (.bipush 9, 2) := by decide +kernel
theorem dX1_tie_7 : decode cX1_tie 7 = .ok (.invokestatic 29, 3) := by decide +kernel
theorem dX1_tie_10 : decode cX1_tie 10 = .ok (.putfield 35, 3) := by decide +kernel
theorem dX1_tie_13 : decode cX1_tie 13 = .ok (.iconst 0, 1) := by decide +kernel
theorem dX1_tie_14 : decode cX1_tie 14 = .ok (.istore 4, 2) := by decide +kernel
theorem dX1_tie_16 : decode cX1_tie 16 = .ok (.iload 4, 2) := by decide +kernel
theorem dX1_tie_18 : decode cX1_tie 18 = .ok (.aload_n 0, 1) := by decide +kernel
theorem dX1_tie_19 : decode cX1_tie 19 = .ok (.getfield 35, 3) := by decide +kernel
theorem dX1_tie_22 : decode cX1_tie 22 = .ok (.if_icmp .ge 82, 3) := by decide +kernel
theorem dX1_tie_104 : decode cX1_tie 104 = .ok (.iconst 0, 1) := by decide +kernel
theorem dX1_tie_105 : decode cX1_tie 105 = .ok (.istore 4, 2) := by decide +kernel
theorem dX1_tie_107 : decode cX1_tie 107 = .ok (.iload 4, 2) := by decide +kernel
theorem dX1_tie_109 : decode cX1_tie 109 = .ok (.aload_n 0, 1) := by decide +kernel
theorem dX1_tie_110 : decode cX1_tie 110 = .ok (.getfield 35, 3) := by decide +kernel
theorem dX1_tie_113 : decode cX1_tie 113 = .ok (.if_icmp .ge 15, 3) := by decide +kernel
theorem dX1_tie_128 : decode cX1_tie 128 = .ok (.return_, 1) := by decide +kernel
set_option maxRecDepth 20000 in
theorem ggX1_join_X4_numberHeaps : GoodIn wsX1_join wsX4_numberHeaps := goodIn_r _ [13, 14, 15, 16, 17, 18, 19, 20, 29, 30, 31, 32, 33] (by decide +kernel) (by decide +kernel)
set_option maxRecDepth 20000 in
theorem gX1_join_X4_numberHeaps : GoodIn wsX1_join (wsV RX1 57 RX4 yX4_numberHeaps wsX4_numberHeaps) := goodIn_app (goodIn_of _ (by decide +kernel)) ggX1_join_X4_numberHeaps
set_option maxRecDepth 20000 in
theorem ggX1_join_X1_worthOf : GoodIn wsX1_join wsX1_worthOf := goodIn_r _ [24, 1, 3, 25, 26, 27, 28, 29, 30, 31, 32, 33] (by decide +kernel) (by decide +kernel)
set_option maxRecDepth 20000 in
theorem gX1_join_X1_worthOf : GoodIn wsX1_join (wsV RX1 60 RX1 yX1_worthOf wsX1_worthOf) := goodIn_app (goodIn_of _ (by decide +kernel)) ggX1_join_X1_worthOf
theorem dX1_join_0 : decode cX1_join 0 = .ok (.iconst 0, 1) := by decide +kernel
theorem dX1_join_1 : decode cX1_join 1 = .ok (.istore_n 2, 1) := by decide +kernel
theorem dX1_join_2 : decode cX1_join 2 = .ok (.iload_n 2, 1) := by decide +kernel
theorem dX1_join_3 : decode cX1_join 3 = .ok (.aload_n 0, 1) := by decide +kernel
theorem dX1_join_4 : decode cX1_join 4 = .ok (.getfield 35, 3) := by decide +kernel
theorem dX1_join_7 : decode cX1_join 7 = .ok (.if_icmp .ge 48, 3) := by decide +kernel
theorem dX1_join_55 : decode cX1_join 55 = .ok (.iconst 1, 1) := by decide +kernel
theorem dX1_join_56 : decode cX1_join 56 = .ok (.istore_n 2, 1) := by decide +kernel
theorem dX1_join_57 : decode cX1_join 57 = .ok (.iconst 0, 1) := by decide +kernel
theorem dX1_join_58 : decode cX1_join 58 = .ok (.istore_n 3, 1) := by decide +kernel
theorem dX1_join_59 : decode cX1_join 59 = .ok (.iload_n 3, 1) := by decide +kernel
theorem dX1_join_60 : decode cX1_join 60 = .ok (.aload_n 0, 1) := by decide +kernel
theorem dX1_join_61 : decode cX1_join 61 = .ok (.getfield 35, 3) := by decide +kernel
theorem dX1_join_64 : decode cX1_join 64 = .ok (.if_icmp .ge 19, 3) := by decide +kernel
theorem dX1_join_83 : decode cX1_join 83 = .ok (.aload_n 1, 1) := by decide +kernel
theorem dX1_join_84 : decode cX1_join 84 = .ok (.aload_n 0, 1) := by decide +kernel
theorem dX1_join_85 : decode cX1_join 85 = .ok (.getfield 35, 3) := by decide +kernel
theorem dX1_join_88 : decode cX1_join 88 = .ok (.invokevirtual 57, 3) := by decide +kernel
theorem dX1_join_91 : decode cX1_join 91 = .ok (.aload_n 1, 1) := by decide +kernel
theorem dX1_join_92 : decode cX1_join 92 = .ok (.aload_n 0, 1) := by decide +kernel
theorem dX1_join_93 : decode cX1_join 93 = .ok (.aload_n 1, 1) := by decide +kernel
theorem dX1_join_94 : decode cX1_join 94 = .ok (.invokevirtual 60, 3) := by decide +kernel
theorem dX1_join_97 : decode cX1_join 97 = .ok (.putfield 64, 3) := by decide +kernel
theorem dX1_join_100 : decode cX1_join 100 = .ok (.return_, 1) := by decide +kernel
theorem dX1_worthOf_0 : decode cX1_worthOf 0 = .ok (.iconst 0, 1) := by decide +kernel
theorem dX1_worthOf_1 : decode cX1_worthOf 1 = .ok (.istore_n 2, 1) := by decide +kernel
theorem dX1_worthOf_2 : decode cX1_worthOf 2 = .ok (.iconst 0, 1) := by decide +kernel
theorem dX1_worthOf_3 : decode cX1_worthOf 3 = .ok (.istore_n 3, 1) := by decide +kernel
theorem dX1_worthOf_4 : decode cX1_worthOf 4 = .ok (.iload_n 3, 1) := by decide +kernel
theorem dX1_worthOf_5 : decode cX1_worthOf 5 = .ok (.aload_n 0, 1) := by decide +kernel
theorem dX1_worthOf_6 : decode cX1_worthOf 6 = .ok (.getfield 35, 3) := by decide +kernel
theorem dX1_worthOf_9 : decode cX1_worthOf 9 = .ok (.if_icmp .ge 61, 3) := by decide +kernel
theorem dX1_worthOf_70 : decode cX1_worthOf 70 = .ok (.iload_n 2, 1) := by decide +kernel
theorem dX1_worthOf_71 : decode cX1_worthOf 71 = .ok (.ireturn, 1) := by decide +kernel
set_option maxRecDepth 20000 in
theorem ggX2_cut_J7_fill_53178 : GoodIn wsX2_cut wsJ7_fill_53178 := goodIn_r _ [10] (by decide +kernel) (by decide +kernel)
set_option maxRecDepth 20000 in
theorem gX2_cut_J7_fill_53178 : GoodIn wsX2_cut (va_wsS RX2 49 yJ7_fill_53178 wsJ7_fill_53178) := goodIn_app (goodIn_of _ (by decide +kernel)) ggX2_cut_J7_fill_53178
theorem dX2_cut_0 : decode cX2_cut 0 = .ok (.aload_n 0, 1) := by decide +kernel
theorem dX2_cut_1 : decode cX2_cut 1 = .ok (.iconst 0, 1) := by decide +kernel
theorem dX2_cut_2 : decode cX2_cut 2 = .ok (.putfield 36, 3) := by decide +kernel
theorem dX2_cut_5 : decode cX2_cut 5 = .ok (.aload_n 0, 1) := by decide +kernel
theorem dX2_cut_6 : decode cX2_cut 6 = .ok (.iconst 0, 1) := by decide +kernel
theorem dX2_cut_7 : decode cX2_cut 7 = .ok (.putfield 40, 3) := by decide +kernel
theorem dX2_cut_10 : decode cX2_cut 10 = .ok (.aload_n 0, 1) := by decide +kernel
theorem dX2_cut_11 : decode cX2_cut 11 = .ok (.iconst 0, 1) := by decide +kernel
theorem dX2_cut_12 : decode cX2_cut 12 = .ok (.putfield 43, 3) := by decide +kernel
theorem dX2_cut_15 : decode cX2_cut 15 = .ok (.aload_n 0, 1) := by decide +kernel
theorem dX2_cut_16 : decode cX2_cut 16 = .ok (.iconst 0, 1) := by decide +kernel
theorem dX2_cut_17 : decode cX2_cut 17 = .ok (.putfield 46, 3) := by decide +kernel
theorem dX2_cut_20 : decode cX2_cut 20 = .ok (.aload_n 0, 1) := by decide +kernel
theorem dX2_cut_21 : decode cX2_cut 21 = .ok (.getfield 27, 3) := by decide +kernel
theorem dX2_cut_24 : decode cX2_cut 24 = .ok (.bipush (-9), 2) := by decide +kernel
theorem dX2_cut_26 : decode cX2_cut 26 = .ok (.invokestatic 49, 3) := by decide +kernel
theorem dX2_cut_29 : decode cX2_cut 29 = .ok (.iconst 0, 1) := by decide +kernel
theorem dX2_cut_30 : decode cX2_cut 30 = .ok (.istore 5, 2) := by decide +kernel
theorem dX2_cut_32 : decode cX2_cut 32 = .ok (.iload 5, 2) := by decide +kernel
theorem dX2_cut_34 : decode cX2_cut 34 = .ok (.aload_n 1, 1) := by decide +kernel
theorem dX2_cut_35 : decode cX2_cut 35 = .ok (.getfield 55, 3) := by decide +kernel
theorem dX2_cut_38 : decode cX2_cut 38 = .ok (.if_icmp .ge 110, 3) := by decide +kernel
theorem dX2_cut_148 : decode cX2_cut 148 = .ok (.return_, 1) := by decide +kernel
set_option maxRecDepth 20000 in
theorem ggX4_numberHeaps_J7_fill_53178 : GoodIn wsX4_numberHeaps wsJ7_fill_53178 := goodIn_r _ [7] (by decide +kernel) (by decide +kernel)
set_option maxRecDepth 20000 in
theorem gX4_numberHeaps_J7_fill_53178 : GoodIn wsX4_numberHeaps (va_wsS RX4 21 yJ7_fill_53178 wsJ7_fill_53178) := goodIn_app (goodIn_of _ (by decide +kernel)) ggX4_numberHeaps_J7_fill_53178
theorem dX4_numberHeaps_0 : decode cX4_numberHeaps 0 = .ok (.aload_n 0, 1) := by decide +kernel
theorem dX4_numberHeaps_1 : decode cX4_numberHeaps 1 = .ok (.getfield 15, 3) := by decide +kernel
theorem dX4_numberHeaps_4 : decode cX4_numberHeaps 4 = .ok (.bipush (-9), 2) := by decide +kernel
theorem dX4_numberHeaps_6 : decode cX4_numberHeaps 6 = .ok (.invokestatic 21, 3) := by decide +kernel
theorem dX4_numberHeaps_9 : decode cX4_numberHeaps 9 = .ok (.aload_n 0, 1) := by decide +kernel
theorem dX4_numberHeaps_10 : decode cX4_numberHeaps 10 = .ok (.iconst 0, 1) := by decide +kernel
theorem dX4_numberHeaps_11 : decode cX4_numberHeaps 11 = .ok (.putfield 27, 3) := by decide +kernel
theorem dX4_numberHeaps_14 : decode cX4_numberHeaps 14 = .ok (.iconst 0, 1) := by decide +kernel
theorem dX4_numberHeaps_15 : decode cX4_numberHeaps 15 = .ok (.istore_n 2, 1) := by decide +kernel
theorem dX4_numberHeaps_16 : decode cX4_numberHeaps 16 = .ok (.iload_n 2, 1) := by decide +kernel
theorem dX4_numberHeaps_17 : decode cX4_numberHeaps 17 = .ok (.iload_n 1, 1) := by decide +kernel
theorem dX4_numberHeaps_18 : decode cX4_numberHeaps 18 = .ok (.if_icmp .ge 89, 3) := by decide +kernel
theorem dX4_numberHeaps_107 : decode cX4_numberHeaps 107 = .ok (.return_, 1) := by decide +kernel
theorem dX4_findMiddles_0 : decode cX4_findMiddles 0 = .ok (.iconst 0, 1) := by decide +kernel
theorem dX4_findMiddles_1 : decode cX4_findMiddles 1 = .ok (.istore 4, 2) := by decide +kernel
theorem dX4_findMiddles_3 : decode cX4_findMiddles 3 = .ok (.iload 4, 2) := by decide +kernel
theorem dX4_findMiddles_5 : decode cX4_findMiddles 5 = .ok (.aload_n 0, 1) := by decide +kernel
theorem dX4_findMiddles_6 : decode cX4_findMiddles 6 = .ok (.getfield 27, 3) := by decide +kernel
theorem dX4_findMiddles_9 : decode cX4_findMiddles 9 = .ok (.if_icmp .ge 97, 3) := by decide +kernel
theorem dX4_findMiddles_106 : decode cX4_findMiddles 106 = .ok (.return_, 1) := by decide +kernel
theorem dX5_has_0 : decode cX5_has 0 = .ok (.iload_n 1, 1) := by decide +kernel
theorem dX5_has_1 : decode cX5_has 1 = .ok (.ifCond .lt 21, 3) := by decide +kernel
theorem dX5_has_4 : decode cX5_has 4 = .ok (.iload_n 1, 1) := by decide +kernel
theorem dX5_has_5 : decode cX5_has 5 = .ok (.aload_n 0, 1) := by decide +kernel
theorem dX5_has_6 : decode cX5_has 6 = .ok (.getfield 21, 3) := by decide +kernel
theorem dX5_has_9 : decode cX5_has 9 = .ok (.if_icmp .ge 13, 3) := by decide +kernel
theorem dX5_has_22 : decode cX5_has 22 = .ok (.iconst 0, 1) := by decide +kernel
theorem dX5_has_23 : decode cX5_has 23 = .ok (.ireturn, 1) := by decide +kernel
set_option maxRecDepth 20000 in
theorem ggX7_addRow_X7_addDeaf : GoodIn wsX7_addRow wsX7_addDeaf := goodIn_r _ [7, 8, 1, 9, 10, 11, 12, 13, 14, 15] (by decide +kernel) (by decide +kernel)
set_option maxRecDepth 20000 in
theorem gX7_addRow_X7_addDeaf : GoodIn wsX7_addRow (wsV RX7 25 RX7 yX7_addDeaf wsX7_addDeaf) := goodIn_app (goodIn_of _ (by decide +kernel)) ggX7_addRow_X7_addDeaf
theorem dX7_addRow_0 : decode cX7_addRow 0 = .ok (.aload_n 0, 1) := by decide +kernel
theorem dX7_addRow_1 : decode cX7_addRow 1 = .ok (.invokevirtual 25, 3) := by decide +kernel
theorem dX7_addRow_4 : decode cX7_addRow 4 = .ok (.istore 5, 2) := by decide +kernel
theorem dX7_addRow_6 : decode cX7_addRow 6 = .ok (.iload 5, 2) := by decide +kernel
theorem dX7_addRow_8 : decode cX7_addRow 8 = .ok (.ifCond .lt 58, 3) := by decide +kernel
theorem dX7_addRow_11 : decode cX7_addRow 11 = .ok (.aload_n 0, 1) := by decide +kernel
theorem dX7_addRow_12 : decode cX7_addRow 12 = .ok (.getfield 15, 3) := by decide +kernel
theorem dX7_addRow_15 : decode cX7_addRow 15 = .ok (.iload 5, 2) := by decide +kernel
theorem dX7_addRow_17 : decode cX7_addRow 17 = .ok (.iconst 0, 1) := by decide +kernel
theorem dX7_addRow_18 : decode cX7_addRow 18 = .ok (.bastore, 1) := by decide +kernel
theorem dX7_addRow_19 : decode cX7_addRow 19 = .ok (.aload_n 0, 1) := by decide +kernel
theorem dX7_addRow_20 : decode cX7_addRow 20 = .ok (.getfield 9, 3) := by decide +kernel
theorem dX7_addRow_23 : decode cX7_addRow 23 = .ok (.iload 5, 2) := by decide +kernel
theorem dX7_addRow_25 : decode cX7_addRow 25 = .ok (.iconst 4, 1) := by decide +kernel
theorem dX7_addRow_26 : decode cX7_addRow 26 = .ok (.imul, 1) := by decide +kernel
theorem dX7_addRow_27 : decode cX7_addRow 27 = .ok (.iload_n 1, 1) := by decide +kernel
theorem dX7_addRow_28 : decode cX7_addRow 28 = .ok (.iastore, 1) := by decide +kernel
theorem dX7_addRow_29 : decode cX7_addRow 29 = .ok (.aload_n 0, 1) := by decide +kernel
theorem dX7_addRow_30 : decode cX7_addRow 30 = .ok (.getfield 9, 3) := by decide +kernel
theorem dX7_addRow_33 : decode cX7_addRow 33 = .ok (.iload 5, 2) := by decide +kernel
theorem dX7_addRow_35 : decode cX7_addRow 35 = .ok (.iconst 4, 1) := by decide +kernel
theorem dX7_addRow_36 : decode cX7_addRow 36 = .ok (.imul, 1) := by decide +kernel
theorem dX7_addRow_37 : decode cX7_addRow 37 = .ok (.iconst 1, 1) := by decide +kernel
theorem dX7_addRow_38 : decode cX7_addRow 38 = .ok (.iadd, 1) := by decide +kernel
theorem dX7_addRow_39 : decode cX7_addRow 39 = .ok (.iload_n 2, 1) := by decide +kernel
theorem dX7_addRow_40 : decode cX7_addRow 40 = .ok (.iastore, 1) := by decide +kernel
theorem dX7_addRow_41 : decode cX7_addRow 41 = .ok (.aload_n 0, 1) := by decide +kernel
theorem dX7_addRow_42 : decode cX7_addRow 42 = .ok (.getfield 9, 3) := by decide +kernel
theorem dX7_addRow_45 : decode cX7_addRow 45 = .ok (.iload 5, 2) := by decide +kernel
theorem dX7_addRow_47 : decode cX7_addRow 47 = .ok (.iconst 4, 1) := by decide +kernel
theorem dX7_addRow_48 : decode cX7_addRow 48 = .ok (.imul, 1) := by decide +kernel
theorem dX7_addRow_49 : decode cX7_addRow 49 = .ok (.iconst 2, 1) := by decide +kernel
theorem dX7_addRow_50 : decode cX7_addRow 50 = .ok (.iadd, 1) := by decide +kernel
theorem dX7_addRow_51 : decode cX7_addRow 51 = .ok (.iload_n 3, 1) := by decide +kernel
theorem dX7_addRow_52 : decode cX7_addRow 52 = .ok (.iastore, 1) := by decide +kernel
theorem dX7_addRow_53 : decode cX7_addRow 53 = .ok (.aload_n 0, 1) := by decide +kernel
theorem dX7_addRow_54 : decode cX7_addRow 54 = .ok (.getfield 9, 3) := by decide +kernel
theorem dX7_addRow_57 : decode cX7_addRow 57 = .ok (.iload 5, 2) := by decide +kernel
theorem dX7_addRow_59 : decode cX7_addRow 59 = .ok (.iconst 4, 1) := by decide +kernel
theorem dX7_addRow_60 : decode cX7_addRow 60 = .ok (.imul, 1) := by decide +kernel
theorem dX7_addRow_61 : decode cX7_addRow 61 = .ok (.iconst 3, 1) := by decide +kernel
theorem dX7_addRow_62 : decode cX7_addRow 62 = .ok (.iadd, 1) := by decide +kernel
theorem dX7_addRow_63 : decode cX7_addRow 63 = .ok (.iload 4, 2) := by decide +kernel
theorem dX7_addRow_65 : decode cX7_addRow 65 = .ok (.iastore, 1) := by decide +kernel
theorem dX7_addRow_66 : decode cX7_addRow 66 = .ok (.iload 5, 2) := by decide +kernel
theorem dX7_addRow_68 : decode cX7_addRow 68 = .ok (.ireturn, 1) := by decide +kernel
theorem dX7_addDeaf_0 : decode cX7_addDeaf 0 = .ok (.aload_n 0, 1) := by decide +kernel
theorem dX7_addDeaf_1 : decode cX7_addDeaf 1 = .ok (.getfield 29, 3) := by decide +kernel
theorem dX7_addDeaf_4 : decode cX7_addDeaf 4 = .ok (.bipush 48, 2) := by decide +kernel
theorem dX7_addDeaf_6 : decode cX7_addDeaf 6 = .ok (.if_icmp .lt 6, 3) := by decide +kernel
theorem dX7_addDeaf_12 : decode cX7_addDeaf 12 = .ok (.aload_n 0, 1) := by decide +kernel
theorem dX7_addDeaf_13 : decode cX7_addDeaf 13 = .ok (.getfield 29, 3) := by decide +kernel
theorem dX7_addDeaf_16 : decode cX7_addDeaf 16 = .ok (.istore_n 1, 1) := by decide +kernel
theorem dX7_addDeaf_17 : decode cX7_addDeaf 17 = .ok (.aload_n 0, 1) := by decide +kernel
theorem dX7_addDeaf_18 : decode cX7_addDeaf 18 = .ok (.getfield 15, 3) := by decide +kernel
theorem dX7_addDeaf_21 : decode cX7_addDeaf 21 = .ok (.iload_n 1, 1) := by decide +kernel
theorem dX7_addDeaf_22 : decode cX7_addDeaf 22 = .ok (.iconst 1, 1) := by decide +kernel
theorem dX7_addDeaf_23 : decode cX7_addDeaf 23 = .ok (.bastore, 1) := by decide +kernel
theorem dX7_addDeaf_24 : decode cX7_addDeaf 24 = .ok (.aload_n 0, 1) := by decide +kernel
theorem dX7_addDeaf_25 : decode cX7_addDeaf 25 = .ok (.getfield 19, 3) := by decide +kernel
theorem dX7_addDeaf_28 : decode cX7_addDeaf 28 = .ok (.iload_n 1, 1) := by decide +kernel
theorem dX7_addDeaf_29 : decode cX7_addDeaf 29 = .ok (.iconst 0, 1) := by decide +kernel
theorem dX7_addDeaf_30 : decode cX7_addDeaf 30 = .ok (.bastore, 1) := by decide +kernel
theorem dX7_addDeaf_31 : decode cX7_addDeaf 31 = .ok (.aload_n 0, 1) := by decide +kernel
theorem dX7_addDeaf_32 : decode cX7_addDeaf 32 = .ok (.getfield 22, 3) := by decide +kernel
theorem dX7_addDeaf_35 : decode cX7_addDeaf 35 = .ok (.iload_n 1, 1) := by decide +kernel
theorem dX7_addDeaf_36 : decode cX7_addDeaf 36 = .ok (.iconst 0, 1) := by decide +kernel
theorem dX7_addDeaf_37 : decode cX7_addDeaf 37 = .ok (.iastore, 1) := by decide +kernel
theorem dX7_addDeaf_38 : decode cX7_addDeaf 38 = .ok (.aload_n 0, 1) := by decide +kernel
theorem dX7_addDeaf_39 : decode cX7_addDeaf 39 = .ok (.dup, 1) := by decide +kernel
theorem dX7_addDeaf_40 : decode cX7_addDeaf 40 = .ok (.getfield 29, 3) := by decide +kernel
theorem dX7_addDeaf_43 : decode cX7_addDeaf 43 = .ok (.iconst 1, 1) := by decide +kernel
theorem dX7_addDeaf_44 : decode cX7_addDeaf 44 = .ok (.iadd, 1) := by decide +kernel
theorem dX7_addDeaf_45 : decode cX7_addDeaf 45 = .ok (.putfield 29, 3) := by decide +kernel
theorem dX7_addDeaf_48 : decode cX7_addDeaf 48 = .ok (.iload_n 1, 1) := by decide +kernel
theorem dX7_addDeaf_49 : decode cX7_addDeaf 49 = .ok (.ireturn, 1) := by decide +kernel
theorem dX7_deafRows_0 : decode cX7_deafRows 0 = .ok (.iconst 0, 1) := by decide +kernel
theorem dX7_deafRows_1 : decode cX7_deafRows 1 = .ok (.istore_n 1, 1) := by decide +kernel
theorem dX7_deafRows_2 : decode cX7_deafRows 2 = .ok (.iconst 0, 1) := by decide +kernel
theorem dX7_deafRows_3 : decode cX7_deafRows 3 = .ok (.istore_n 2, 1) := by decide +kernel
theorem dX7_deafRows_4 : decode cX7_deafRows 4 = .ok (.iload_n 2, 1) := by decide +kernel
theorem dX7_deafRows_5 : decode cX7_deafRows 5 = .ok (.aload_n 0, 1) := by decide +kernel
theorem dX7_deafRows_6 : decode cX7_deafRows 6 = .ok (.getfield 29, 3) := by decide +kernel
theorem dX7_deafRows_9 : decode cX7_deafRows 9 = .ok (.if_icmp .ge 26, 3) := by decide +kernel
theorem dX7_deafRows_35 : decode cX7_deafRows 35 = .ok (.iload_n 1, 1) := by decide +kernel
theorem dX7_deafRows_36 : decode cX7_deafRows 36 = .ok (.ireturn, 1) := by decide +kernel
theorem dX7_outRows_0 : decode cX7_outRows 0 = .ok (.iconst 0, 1) := by decide +kernel
theorem dX7_outRows_1 : decode cX7_outRows 1 = .ok (.istore_n 1, 1) := by decide +kernel
theorem dX7_outRows_2 : decode cX7_outRows 2 = .ok (.iconst 0, 1) := by decide +kernel
theorem dX7_outRows_3 : decode cX7_outRows 3 = .ok (.istore_n 2, 1) := by decide +kernel
theorem dX7_outRows_4 : decode cX7_outRows 4 = .ok (.iload_n 2, 1) := by decide +kernel
theorem dX7_outRows_5 : decode cX7_outRows 5 = .ok (.aload_n 0, 1) := by decide +kernel
theorem dX7_outRows_6 : decode cX7_outRows 6 = .ok (.getfield 29, 3) := by decide +kernel
theorem dX7_outRows_9 : decode cX7_outRows 9 = .ok (.if_icmp .ge 26, 3) := by decide +kernel
theorem dX7_outRows_35 : decode cX7_outRows 35 = .ok (.iload_n 1, 1) := by decide +kernel
theorem dX7_outRows_36 : decode cX7_outRows 36 = .ok (.ireturn, 1) := by decide +kernel
theorem dX8_ruleNow_0 : decode cX8_ruleNow 0 = .ok (.iload_n 1, 1) := by decide +kernel
theorem dX8_ruleNow_1 : decode cX8_ruleNow 1 = .ok (.ifCond .lt 18, 3) := by decide +kernel
theorem dX8_ruleNow_4 : decode cX8_ruleNow 4 = .ok (.iload_n 1, 1) := by decide +kernel
theorem dX8_ruleNow_5 : decode cX8_ruleNow 5 = .ok (.bipush 6, 2) := by decide +kernel
theorem dX8_ruleNow_7 : decode cX8_ruleNow 7 = .ok (.if_icmp .ge 12, 3) := by decide +kernel
theorem dX8_ruleNow_10 : decode cX8_ruleNow 10 = .ok (.aload_n 0, 1) := by decide +kernel
theorem dX8_ruleNow_11 : decode cX8_ruleNow 11 = .ok (.getfield 13, 3) := by decide +kernel
theorem dX8_ruleNow_14 : decode cX8_ruleNow 14 = .ok (.iload_n 1, 1) := by decide +kernel
theorem dX8_ruleNow_15 : decode cX8_ruleNow 15 = .ok (.iaload, 1) := by decide +kernel
theorem dX8_ruleNow_16 : decode cX8_ruleNow 16 = .ok (.goto 4, 3) := by decide +kernel
theorem dX8_ruleNow_20 : decode cX8_ruleNow 20 = .ok (.ireturn, 1) := by decide +kernel
theorem dX8_append_0 : decode cX8_append 0 = .ok (.iload_n 3, 1) := by decide +kernel
theorem dX8_append_1 : decode cX8_append 1 = .ok (.ifCond .lt 15, 3) := by decide +kernel
theorem dX8_append_4 : decode cX8_append 4 = .ok (.iload_n 3, 1) := by decide +kernel
theorem dX8_append_5 : decode cX8_append 5 = .ok (.sipush 200, 3) := by decide +kernel
theorem dX8_append_8 : decode cX8_append 8 = .ok (.aload_n 0, 1) := by decide +kernel
theorem dX8_append_9 : decode cX8_append 9 = .ok (.getfield 22, 3) := by decide +kernel
theorem dX8_append_12 : decode cX8_append 12 = .ok (.isub, 1) := by decide +kernel
theorem dX8_append_13 : decode cX8_append 13 = .ok (.if_icmp .le 5, 3) := by decide +kernel
theorem dX8_append_18 : decode cX8_append 18 = .ok (.iload_n 3, 1) := by decide +kernel
theorem dX8_append_19 : decode cX8_append 19 = .ok (.iconst 1, 1) := by decide +kernel
theorem dX8_append_20 : decode cX8_append 20 = .ok (.isub, 1) := by decide +kernel
theorem dX8_append_21 : decode cX8_append 21 = .ok (.istore 4, 2) := by decide +kernel
theorem dX8_append_23 : decode cX8_append 23 = .ok (.iload 4, 2) := by decide +kernel
theorem dX8_append_25 : decode cX8_append 25 = .ok (.ifCond .lt 40, 3) := by decide +kernel
theorem dX8_append_28 : decode cX8_append 28 = .ok (.aload_n 0, 1) := by decide +kernel
theorem dX8_append_29 : decode cX8_append 29 = .ok (.getfield 9, 3) := by decide +kernel
theorem dX8_append_32 : decode cX8_append 32 = .ok (.aload_n 0, 1) := by decide +kernel
theorem dX8_append_33 : decode cX8_append 33 = .ok (.getfield 22, 3) := by decide +kernel
theorem dX8_append_36 : decode cX8_append 36 = .ok (.lload_n 1, 1) := by decide +kernel
theorem dX8_append_37 : decode cX8_append 37 = .ok (.bipush 8, 2) := by decide +kernel
theorem dX8_append_39 : decode cX8_append 39 = .ok (.iload 4, 2) := by decide +kernel
theorem dX8_append_41 : decode cX8_append 41 = .ok (.imul, 1) := by decide +kernel
theorem dX8_append_42 : decode cX8_append 42 = .ok (.lushr, 1) := by decide +kernel
theorem dX8_append_43 : decode cX8_append 43 = .ok (.l2i, 1) := by decide +kernel
theorem dX8_append_44 : decode cX8_append 44 = .ok (.sipush 255, 3) := by decide +kernel
theorem dX8_append_47 : decode cX8_append 47 = .ok (.iand, 1) := by decide +kernel
theorem dX8_append_48 : decode cX8_append 48 = .ok (.iastore, 1) := by decide +kernel
theorem dX8_append_49 : decode cX8_append 49 = .ok (.aload_n 0, 1) := by decide +kernel
theorem dX8_append_50 : decode cX8_append 50 = .ok (.dup, 1) := by decide +kernel
theorem dX8_append_51 : decode cX8_append 51 = .ok (.getfield 22, 3) := by decide +kernel
theorem dX8_append_54 : decode cX8_append 54 = .ok (.iconst 1, 1) := by decide +kernel
theorem dX8_append_55 : decode cX8_append 55 = .ok (.iadd, 1) := by decide +kernel
theorem dX8_append_56 : decode cX8_append 56 = .ok (.putfield 22, 3) := by decide +kernel
theorem dX8_append_59 : decode cX8_append 59 = .ok (.iinc 4 (-1), 3) := by decide +kernel
theorem dX8_append_62 : decode cX8_append 62 = .ok (.goto (-39), 3) := by decide +kernel
theorem dX8_append_65 : decode cX8_append 65 = .ok (.iconst 1, 1) := by decide +kernel
theorem dX8_append_66 : decode cX8_append 66 = .ok (.ireturn, 1) := by decide +kernel
set_option maxRecDepth 20000 in
theorem ggX8_read_J7_fill_53178 : GoodIn wsX8_read wsJ7_fill_53178 := goodIn_r _ [6] (by decide +kernel) (by decide +kernel)
set_option maxRecDepth 20000 in
theorem gX8_read_J7_fill_53178 : GoodIn wsX8_read (va_wsS RX8 26 yJ7_fill_53178 wsJ7_fill_53178) := goodIn_app (goodIn_of _ (by decide +kernel)) ggX8_read_J7_fill_53178
set_option maxRecDepth 20000 in
theorem ggX8_read_X8_endsBehindBlanks : GoodIn wsX8_read wsX8_endsBehindBlanks := goodIn_r _ [11, 2, 12, 13, 99, 100, 101, 102, 103] (by decide +kernel) (by decide +kernel)
set_option maxRecDepth 20000 in
theorem gX8_read_X8_endsBehindBlanks : GoodIn wsX8_read (wsV RX8 35 RX8 yX8_endsBehindBlanks wsX8_endsBehindBlanks) := goodIn_app (goodIn_of _ (by decide +kernel)) ggX8_read_X8_endsBehindBlanks
set_option maxRecDepth 20000 in
theorem ggX8_read_X8_adopt : GoodIn wsX8_read wsX8_adopt := goodIn_r _ [17, 18, 1, 19, 12, 99, 100, 101, 102, 103] (by decide +kernel) (by decide +kernel)
set_option maxRecDepth 20000 in
theorem gX8_read_X8_adopt : GoodIn wsX8_read (wsV RX8 39 RX8 yX8_adopt wsX8_adopt) := goodIn_app (goodIn_of _ (by decide +kernel)) ggX8_read_X8_adopt
theorem dX8_read_0 : decode cX8_read 0 = .ok (.aload_n 0, 1) := by decide +kernel
theorem dX8_read_1 : decode cX8_read 1 = .ok (.getfield 16, 3) := by decide +kernel
theorem dX8_read_4 : decode cX8_read 4 = .ok (.iconst (-1), 1) := by decide +kernel
theorem dX8_read_5 : decode cX8_read 5 = .ok (.invokestatic 26, 3) := by decide +kernel
theorem dX8_read_8 : decode cX8_read 8 = .ok (.aload_n 0, 1) := by decide +kernel
theorem dX8_read_9 : decode cX8_read 9 = .ok (.iconst 0, 1) := by decide +kernel
theorem dX8_read_10 : decode cX8_read 10 = .ok (.putfield 32, 3) := by decide +kernel
theorem dX8_read_13 : decode cX8_read 13 = .ok (.iconst 0, 1) := by decide +kernel
theorem dX8_read_14 : decode cX8_read 14 = .ok (.istore_n 1, 1) := by decide +kernel
theorem dX8_read_15 : decode cX8_read 15 = .ok (.iload_n 1, 1) := by decide +kernel
theorem dX8_read_16 : decode cX8_read 16 = .ok (.bipush 6, 2) := by decide +kernel
theorem dX8_read_18 : decode cX8_read 18 = .ok (.if_icmp .gt 36, 3) := by decide +kernel
theorem dX8_read_21 : decode cX8_read 21 = .ok (.aload_n 0, 1) := by decide +kernel
theorem dX8_read_22 : decode cX8_read 22 = .ok (.invokevirtual 35, 3) := by decide +kernel
theorem dX8_read_25 : decode cX8_read 25 = .ok (.ifCond .eq 9, 3) := by decide +kernel
theorem dX8_read_28 : decode cX8_read 28 = .ok (.aload_n 0, 1) := by decide +kernel
theorem dX8_read_29 : decode cX8_read 29 = .ok (.invokevirtual 39, 3) := by decide +kernel
theorem dX8_read_32 : decode cX8_read 32 = .ok (.iload_n 1, 1) := by decide +kernel
theorem dX8_read_33 : decode cX8_read 33 = .ok (.ireturn, 1) := by decide +kernel
theorem dX8_adopt_0 : decode cX8_adopt 0 = .ok (.iconst 0, 1) := by decide +kernel
theorem dX8_adopt_1 : decode cX8_adopt 1 = .ok (.istore_n 1, 1) := by decide +kernel
theorem dX8_adopt_2 : decode cX8_adopt 2 = .ok (.iload_n 1, 1) := by decide +kernel
theorem dX8_adopt_3 : decode cX8_adopt 3 = .ok (.bipush 6, 2) := by decide +kernel
theorem dX8_adopt_5 : decode cX8_adopt 5 = .ok (.if_icmp .ge 39, 3) := by decide +kernel
theorem dX8_adopt_8 : decode cX8_adopt 8 = .ok (.aload_n 0, 1) := by decide +kernel
theorem dX8_adopt_9 : decode cX8_adopt 9 = .ok (.getfield 13, 3) := by decide +kernel
theorem dX8_adopt_12 : decode cX8_adopt 12 = .ok (.iload_n 1, 1) := by decide +kernel
theorem dX8_adopt_13 : decode cX8_adopt 13 = .ok (.aload_n 0, 1) := by decide +kernel
theorem dX8_adopt_14 : decode cX8_adopt 14 = .ok (.getfield 16, 3) := by decide +kernel
theorem dX8_adopt_17 : decode cX8_adopt 17 = .ok (.iload_n 1, 1) := by decide +kernel
theorem dX8_adopt_18 : decode cX8_adopt 18 = .ok (.iaload, 1) := by decide +kernel
theorem dX8_adopt_19 : decode cX8_adopt 19 = .ok (.iconst (-1), 1) := by decide +kernel
theorem dX8_adopt_20 : decode cX8_adopt 20 = .ok (.if_icmp .ne 11, 3) := by decide +kernel
theorem dX8_adopt_23 : decode cX8_adopt 23 = .ok (.getstatic 19, 3) := by decide +kernel
theorem dX8_adopt_26 : decode cX8_adopt 26 = .ok (.iload_n 1, 1) := by decide +kernel
theorem dX8_adopt_27 : decode cX8_adopt 27 = .ok (.iaload, 1) := by decide +kernel
theorem dX8_adopt_28 : decode cX8_adopt 28 = .ok (.goto 9, 3) := by decide +kernel
theorem dX8_adopt_37 : decode cX8_adopt 37 = .ok (.iastore, 1) := by decide +kernel
theorem dX8_adopt_38 : decode cX8_adopt 38 = .ok (.iinc 1 1, 3) := by decide +kernel
theorem dX8_adopt_41 : decode cX8_adopt 41 = .ok (.goto (-39), 3) := by decide +kernel
theorem dX8_adopt_44 : decode cX8_adopt 44 = .ok (.aload_n 0, 1) := by decide +kernel
theorem dX8_adopt_45 : decode cX8_adopt 45 = .ok (.iconst 0, 1) := by decide +kernel
theorem dX8_adopt_46 : decode cX8_adopt 46 = .ok (.putfield 22, 3) := by decide +kernel
theorem dX8_adopt_49 : decode cX8_adopt 49 = .ok (.return_, 1) := by decide +kernel
theorem dX8_endsBehindBlanks_0 : decode cX8_endsBehindBlanks 0 = .ok (.aload_n 0, 1) := by decide +kernel
theorem dX8_endsBehindBlanks_1 : decode cX8_endsBehindBlanks 1 = .ok (.getfield 32, 3) := by decide +kernel
theorem dX8_endsBehindBlanks_4 : decode cX8_endsBehindBlanks 4 = .ok (.aload_n 0, 1) := by decide +kernel
theorem dX8_endsBehindBlanks_5 : decode cX8_endsBehindBlanks 5 = .ok (.getfield 22, 3) := by decide +kernel
theorem dX8_endsBehindBlanks_8 : decode cX8_endsBehindBlanks 8 = .ok (.if_icmp .ge 30, 3) := by decide +kernel
theorem dX8_endsBehindBlanks_38 : decode cX8_endsBehindBlanks 38 = .ok (.aload_n 0, 1) := by decide +kernel
theorem dX8_endsBehindBlanks_39 : decode cX8_endsBehindBlanks 39 = .ok (.getfield 32, 3) := by decide +kernel
theorem dX8_endsBehindBlanks_42 : decode cX8_endsBehindBlanks 42 = .ok (.aload_n 0, 1) := by decide +kernel
theorem dX8_endsBehindBlanks_43 : decode cX8_endsBehindBlanks 43 = .ok (.getfield 22, 3) := by decide +kernel
theorem dX8_endsBehindBlanks_46 : decode cX8_endsBehindBlanks 46 = .ok (.if_icmp .lt 7, 3) := by decide +kernel
theorem dX8_endsBehindBlanks_49 : decode cX8_endsBehindBlanks 49 = .ok (.iconst 1, 1) := by decide +kernel
theorem dX8_endsBehindBlanks_50 : decode cX8_endsBehindBlanks 50 = .ok (.goto 4, 3) := by decide +kernel
theorem dX8_endsBehindBlanks_54 : decode cX8_endsBehindBlanks 54 = .ok (.ireturn, 1) := by decide +kernel
theorem dX9_missed_0 : decode cX9_missed 0 = .ok (.iconst 0, 1) := by decide +kernel
theorem dX9_missed_1 : decode cX9_missed 1 = .ok (.istore_n 3, 1) := by decide +kernel
theorem dX9_missed_2 : decode cX9_missed 2 = .ok (.iconst 0, 1) := by decide +kernel
theorem dX9_missed_3 : decode cX9_missed 3 = .ok (.istore 4, 2) := by decide +kernel
theorem dX9_missed_5 : decode cX9_missed 5 = .ok (.iload 4, 2) := by decide +kernel
theorem dX9_missed_7 : decode cX9_missed 7 = .ok (.aload_n 1, 1) := by decide +kernel
theorem dX9_missed_8 : decode cX9_missed 8 = .ok (.getfield 20, 3) := by decide +kernel
theorem dX9_missed_11 : decode cX9_missed 11 = .ok (.if_icmp .ge 39, 3) := by decide +kernel
theorem dX9_missed_50 : decode cX9_missed 50 = .ok (.iload_n 3, 1) := by decide +kernel
theorem dX9_missed_51 : decode cX9_missed 51 = .ok (.ireturn, 1) := by decide +kernel
theorem dX9_madeUp_0 : decode cX9_madeUp 0 = .ok (.iconst 0, 1) := by decide +kernel
theorem dX9_madeUp_1 : decode cX9_madeUp 1 = .ok (.istore_n 3, 1) := by decide +kernel
theorem dX9_madeUp_2 : decode cX9_madeUp 2 = .ok (.iconst 0, 1) := by decide +kernel
theorem dX9_madeUp_3 : decode cX9_madeUp 3 = .ok (.istore 4, 2) := by decide +kernel
theorem dX9_madeUp_5 : decode cX9_madeUp 5 = .ok (.iload 4, 2) := by decide +kernel
theorem dX9_madeUp_7 : decode cX9_madeUp 7 = .ok (.aload_n 1, 1) := by decide +kernel
theorem dX9_madeUp_8 : decode cX9_madeUp 8 = .ok (.getfield 20, 3) := by decide +kernel
theorem dX9_madeUp_11 : decode cX9_madeUp 11 = .ok (.if_icmp .ge 39, 3) := by decide +kernel
theorem dX9_madeUp_50 : decode cX9_madeUp 50 = .ok (.iload_n 3, 1) := by decide +kernel
theorem dX9_madeUp_51 : decode cX9_madeUp 51 = .ok (.ireturn, 1) := by decide +kernel
set_option maxRecDepth 20000 in
theorem ggX9_wrong_X9_countTogether : GoodIn wsX9_wrong wsX9_countTogether := goodIn_r _ [7, 2, 8, 9, 10, 11, 20, 21, 27, 28, 29, 30, 31, 32, 33, 34, 35, 36, 37, 38, 39, 40, 41, 42, 43, 22, 23, 24, 25, 26] (by decide +kernel) (by decide +kernel)
set_option maxRecDepth 20000 in
theorem gX9_wrong_X9_countTogether : GoodIn wsX9_wrong (wsV RX9 34 RX9 yX9_countTogether wsX9_countTogether) := goodIn_app (goodIn_of _ (by decide +kernel)) ggX9_wrong_X9_countTogether
set_option maxRecDepth 20000 in
theorem ggX9_wrong_J7_fill_53178 : GoodIn wsX9_wrong wsJ7_fill_53178 := goodIn_r _ [11] (by decide +kernel) (by decide +kernel)
set_option maxRecDepth 20000 in
theorem gX9_wrong_J7_fill_53178 : GoodIn wsX9_wrong (va_wsS RX9 38 yJ7_fill_53178 wsJ7_fill_53178) := goodIn_app (goodIn_of _ (by decide +kernel)) ggX9_wrong_J7_fill_53178
theorem dX9_wrong_0 : decode cX9_wrong 0 = .ok (.aload_n 0, 1) := by decide +kernel
theorem dX9_wrong_1 : decode cX9_wrong 1 = .ok (.aload_n 1, 1) := by decide +kernel
theorem dX9_wrong_2 : decode cX9_wrong 2 = .ok (.aload_n 2, 1) := by decide +kernel
theorem dX9_wrong_3 : decode cX9_wrong 3 = .ok (.aload_n 3, 1) := by decide +kernel
theorem dX9_wrong_4 : decode cX9_wrong 4 = .ok (.invokevirtual 34, 3) := by decide +kernel
theorem dX9_wrong_7 : decode cX9_wrong 7 = .ok (.istore 4, 2) := by decide +kernel
theorem dX9_wrong_9 : decode cX9_wrong 9 = .ok (.aload_n 0, 1) := by decide +kernel
theorem dX9_wrong_10 : decode cX9_wrong 10 = .ok (.getfield 16, 3) := by decide +kernel
theorem dX9_wrong_13 : decode cX9_wrong 13 = .ok (.iconst 0, 1) := by decide +kernel
theorem dX9_wrong_14 : decode cX9_wrong 14 = .ok (.invokestatic 38, 3) := by decide +kernel
theorem dX9_wrong_17 : decode cX9_wrong 17 = .ok (.iconst 0, 1) := by decide +kernel
theorem dX9_wrong_18 : decode cX9_wrong 18 = .ok (.istore 5, 2) := by decide +kernel
theorem dX9_wrong_20 : decode cX9_wrong 20 = .ok (.iload 5, 2) := by decide +kernel
theorem dX9_wrong_22 : decode cX9_wrong 22 = .ok (.aload_n 3, 1) := by decide +kernel
theorem dX9_wrong_23 : decode cX9_wrong 23 = .ok (.getfield 44, 3) := by decide +kernel
theorem dX9_wrong_26 : decode cX9_wrong 26 = .ok (.if_icmp .ge 49, 3) := by decide +kernel
theorem dX9_wrong_75 : decode cX9_wrong 75 = .ok (.iload 4, 2) := by decide +kernel
theorem dX9_wrong_77 : decode cX9_wrong 77 = .ok (.aload_n 0, 1) := by decide +kernel
theorem dX9_wrong_78 : decode cX9_wrong 78 = .ok (.getfield 16, 3) := by decide +kernel
theorem dX9_wrong_81 : decode cX9_wrong 81 = .ok (.aload_n 0, 1) := by decide +kernel
theorem dX9_wrong_82 : decode cX9_wrong 82 = .ok (.getfield 16, 3) := by decide +kernel
theorem dX9_wrong_85 : decode cX9_wrong 85 = .ok (.arraylength, 1) := by decide +kernel
theorem dX9_wrong_86 : decode cX9_wrong 86 = .ok (.iconst 1, 1) := by decide +kernel
theorem dX9_wrong_87 : decode cX9_wrong 87 = .ok (.isub, 1) := by decide +kernel
theorem dX9_wrong_88 : decode cX9_wrong 88 = .ok (.iaload, 1) := by decide +kernel
theorem dX9_wrong_89 : decode cX9_wrong 89 = .ok (.isub, 1) := by decide +kernel
theorem dX9_wrong_90 : decode cX9_wrong 90 = .ok (.ireturn, 1) := by decide +kernel
set_option maxRecDepth 20000 in
theorem ggX9_countTogether_J7_fill_53178 : GoodIn wsX9_countTogether wsJ7_fill_53178 := goodIn_r _ [5] (by decide +kernel) (by decide +kernel)
set_option maxRecDepth 20000 in
theorem gX9_countTogether_J7_fill_53178 : GoodIn wsX9_countTogether (va_wsS RX9 38 yJ7_fill_53178 wsJ7_fill_53178) := goodIn_app (goodIn_of _ (by decide +kernel)) ggX9_countTogether_J7_fill_53178
theorem dX9_countTogether_0 : decode cX9_countTogether 0 = .ok (.iconst 0, 1) := by decide +kernel
theorem dX9_countTogether_1 : decode cX9_countTogether 1 = .ok (.istore 4, 2) := by decide +kernel
theorem dX9_countTogether_3 : decode cX9_countTogether 3 = .ok (.iload 4, 2) := by decide +kernel
theorem dX9_countTogether_5 : decode cX9_countTogether 5 = .ok (.bipush 9, 2) := by decide +kernel
theorem dX9_countTogether_7 : decode cX9_countTogether 7 = .ok (.if_icmp .ge 20, 3) := by decide +kernel
theorem dX9_countTogether_10 : decode cX9_countTogether 10 = .ok (.aload_n 0, 1) := by decide +kernel
theorem dX9_countTogether_11 : decode cX9_countTogether 11 = .ok (.getfield 13, 3) := by decide +kernel
theorem dX9_countTogether_14 : decode cX9_countTogether 14 = .ok (.iload 4, 2) := by decide +kernel
theorem dX9_countTogether_16 : decode cX9_countTogether 16 = .ok (.aaload, 1) := by decide +kernel
theorem dX9_countTogether_17 : decode cX9_countTogether 17 = .ok (.iconst 0, 1) := by decide +kernel
theorem dX9_countTogether_18 : decode cX9_countTogether 18 = .ok (.invokestatic 38, 3) := by decide +kernel
theorem dX9_countTogether_21 : decode cX9_countTogether 21 = .ok (.iinc 4 1, 3) := by decide +kernel
theorem dX9_countTogether_24 : decode cX9_countTogether 24 = .ok (.goto (-21), 3) := by decide +kernel
theorem dX9_countTogether_27 : decode cX9_countTogether 27 = .ok (.iconst 0, 1) := by decide +kernel
theorem dX9_countTogether_28 : decode cX9_countTogether 28 = .ok (.istore 4, 2) := by decide +kernel
theorem dX9_countTogether_30 : decode cX9_countTogether 30 = .ok (.iconst 0, 1) := by decide +kernel
theorem dX9_countTogether_31 : decode cX9_countTogether 31 = .ok (.istore 5, 2) := by decide +kernel
theorem dX9_countTogether_33 : decode cX9_countTogether 33 = .ok (.iload 5, 2) := by decide +kernel
theorem dX9_countTogether_35 : decode cX9_countTogether 35 = .ok (.aload_n 1, 1) := by decide +kernel
theorem dX9_countTogether_36 : decode cX9_countTogether 36 = .ok (.getfield 20, 3) := by decide +kernel
theorem dX9_countTogether_39 : decode cX9_countTogether 39 = .ok (.if_icmp .ge 74, 3) := by decide +kernel
theorem dX9_countTogether_113 : decode cX9_countTogether 113 = .ok (.iload 4, 2) := by decide +kernel
theorem dX9_countTogether_115 : decode cX9_countTogether 115 = .ok (.ireturn, 1) := by decide +kernel
set_option maxRecDepth 20000 in
theorem ggX11_type_X11_within : GoodIn wsX11_type wsX11_within := goodIn_r _ [5] (by decide +kernel) (by decide +kernel)
set_option maxRecDepth 20000 in
theorem gX11_type_X11_within : GoodIn wsX11_type (va_wsS RX11 104 yX11_within wsX11_within) := goodIn_app (goodIn_of _ (by decide +kernel)) ggX11_type_X11_within
set_option maxRecDepth 20000 in
theorem ggX11_type_X8_append : GoodIn wsX11_type wsX8_append := goodIn_r _ [10, 11, 12, 29, 30, 31, 32, 33] (by decide +kernel) (by decide +kernel)
set_option maxRecDepth 20000 in
theorem gX11_type_X8_append : GoodIn wsX11_type (wsV RX11 108 RX8 yX8_append wsX8_append) := goodIn_app (goodIn_of _ (by decide +kernel)) ggX11_type_X8_append
theorem dX11_type_0 : decode cX11_type 0 = .ok (.iload_n 3, 1) := by decide +kernel
theorem dX11_type_1 : decode cX11_type 1 = .ok (.iconst 1, 1) := by decide +kernel
theorem dX11_type_2 : decode cX11_type 2 = .ok (.bipush 8, 2) := by decide +kernel
theorem dX11_type_4 : decode cX11_type 4 = .ok (.invokestatic 104, 3) := by decide +kernel
theorem dX11_type_7 : decode cX11_type 7 = .ok (.ifCond .ne 5, 3) := by decide +kernel
theorem dX11_type_10 : decode cX11_type 10 = .ok (.iconst (-1), 1) := by decide +kernel
theorem dX11_type_11 : decode cX11_type 11 = .ok (.ireturn, 1) := by decide +kernel
theorem dX11_type_12 : decode cX11_type 12 = .ok (.aload_n 0, 1) := by decide +kernel
theorem dX11_type_13 : decode cX11_type 13 = .ok (.getfield 10, 3) := by decide +kernel
theorem dX11_type_16 : decode cX11_type 16 = .ok (.lload_n 1, 1) := by decide +kernel
theorem dX11_type_17 : decode cX11_type 17 = .ok (.iload_n 3, 1) := by decide +kernel
theorem dX11_type_18 : decode cX11_type 18 = .ok (.invokevirtual 108, 3) := by decide +kernel
theorem dX11_type_21 : decode cX11_type 21 = .ok (.ifCond .eq 13, 3) := by decide +kernel
theorem dX11_type_24 : decode cX11_type 24 = .ok (.aload_n 0, 1) := by decide +kernel
theorem dX11_type_25 : decode cX11_type 25 = .ok (.getfield 10, 3) := by decide +kernel
theorem dX11_type_28 : decode cX11_type 28 = .ok (.getfield 112, 3) := by decide +kernel
theorem dX11_type_31 : decode cX11_type 31 = .ok (.goto 5, 3) := by decide +kernel
theorem dX11_type_36 : decode cX11_type 36 = .ok (.ireturn, 1) := by decide +kernel
theorem dX11_clear_0 : decode cX11_clear 0 = .ok (.aload_n 0, 1) := by decide +kernel
theorem dX11_clear_1 : decode cX11_clear 1 = .ok (.getfield 10, 3) := by decide +kernel
theorem dX11_clear_4 : decode cX11_clear 4 = .ok (.getfield 112, 3) := by decide +kernel
theorem dX11_clear_7 : decode cX11_clear 7 = .ok (.istore_n 1, 1) := by decide +kernel
theorem dX11_clear_8 : decode cX11_clear 8 = .ok (.aload_n 0, 1) := by decide +kernel
theorem dX11_clear_9 : decode cX11_clear 9 = .ok (.getfield 10, 3) := by decide +kernel
theorem dX11_clear_12 : decode cX11_clear 12 = .ok (.iconst 0, 1) := by decide +kernel
theorem dX11_clear_13 : decode cX11_clear 13 = .ok (.putfield 112, 3) := by decide +kernel
theorem dX11_clear_16 : decode cX11_clear 16 = .ok (.iload_n 1, 1) := by decide +kernel
theorem dX11_clear_17 : decode cX11_clear 17 = .ok (.ireturn, 1) := by decide +kernel
set_option maxRecDepth 20000 in
theorem ggX11_rules_X8_read : GoodIn wsX11_rules wsX8_read := goodIn_r _ [6, 7, 8, 9, 10, 11, 12, 13, 14, 15, 5, 16, 17, 18, 19, 20, 21, 22, 23, 24, 25, 26, 27, 28, 29, 30, 31, 32, 33, 34, 35, 36, 37, 38, 39, 40, 41, 42, 43, 44, 45, 46, 47, 48, 49, 50, 51, 52, 53, 54, 55, 56, 57, 58, 59, 60, 61, 62, 63, 64, 65, 66, 67, 68, 69, 70, 71, 72, 73, 74, 75, 76, 77, 78, 79, 80, 81, 82, 83, 84, 85, 86, 87, 88, 89, 90, 91, 92, 93, 94, 95, 96, 97, 98, 99, 100, 101, 102, 103, 128, 129, 130, 131, 132] (by decide +kernel) (by decide +kernel)
set_option maxRecDepth 20000 in
theorem gX11_rules_X8_read : GoodIn wsX11_rules (wsV RX11 115 RX8 yX8_read wsX8_read) := goodIn_app (goodIn_of _ (by decide +kernel)) ggX11_rules_X8_read
set_option maxRecDepth 20000 in
theorem ggX11_rules_X11_nothingIsFound : GoodIn wsX11_rules wsX11_nothingIsFound := goodIn_r _ [108, 109, 110, 111, 112, 113, 114, 115, 116, 117, 118, 119, 120, 121, 122, 123, 124, 125, 126, 127] (by decide +kernel) (by decide +kernel)
set_option maxRecDepth 20000 in
theorem gX11_rules_X11_nothingIsFound : GoodIn wsX11_rules (wsV RX11 119 RX11 yX11_nothingIsFound wsX11_nothingIsFound) := goodIn_app (goodIn_of _ (by decide +kernel)) ggX11_rules_X11_nothingIsFound
theorem dX11_rules_0 : decode cX11_rules 0 = .ok (.aload_n 0, 1) := by decide +kernel
theorem dX11_rules_1 : decode cX11_rules 1 = .ok (.getfield 10, 3) := by decide +kernel
theorem dX11_rules_4 : decode cX11_rules 4 = .ok (.invokevirtual 115, 3) := by decide +kernel
theorem dX11_rules_7 : decode cX11_rules 7 = .ok (.istore_n 1, 1) := by decide +kernel
theorem dX11_rules_8 : decode cX11_rules 8 = .ok (.iload_n 1, 1) := by decide +kernel
theorem dX11_rules_9 : decode cX11_rules 9 = .ok (.ifCond .lt 7, 3) := by decide +kernel
theorem dX11_rules_12 : decode cX11_rules 12 = .ok (.aload_n 0, 1) := by decide +kernel
theorem dX11_rules_13 : decode cX11_rules 13 = .ok (.invokevirtual 119, 3) := by decide +kernel
theorem dX11_rules_16 : decode cX11_rules 16 = .ok (.iload_n 1, 1) := by decide +kernel
theorem dX11_rules_17 : decode cX11_rules 17 = .ok (.ireturn, 1) := by decide +kernel
set_option maxRecDepth 20000 in
theorem ggX11_rule_X11_within : GoodIn wsX11_rule wsX11_within := goodIn_r _ [5] (by decide +kernel) (by decide +kernel)
set_option maxRecDepth 20000 in
theorem gX11_rule_X11_within : GoodIn wsX11_rule (va_wsS RX11 104 yX11_within wsX11_within) := goodIn_app (goodIn_of _ (by decide +kernel)) ggX11_rule_X11_within
set_option maxRecDepth 20000 in
theorem ggX11_rule_X8_ruleNow : GoodIn wsX11_rule wsX8_ruleNow := goodIn_r _ [10, 11, 28, 29, 30, 31, 32] (by decide +kernel) (by decide +kernel)
set_option maxRecDepth 20000 in
theorem gX11_rule_X8_ruleNow : GoodIn wsX11_rule (wsV RX11 122 RX8 yX8_ruleNow wsX8_ruleNow) := goodIn_app (goodIn_of _ (by decide +kernel)) ggX11_rule_X8_ruleNow
theorem dX11_rule_0 : decode cX11_rule 0 = .ok (.iload_n 1, 1) := by decide +kernel
theorem dX11_rule_1 : decode cX11_rule 1 = .ok (.iconst 0, 1) := by decide +kernel
theorem dX11_rule_2 : decode cX11_rule 2 = .ok (.iconst 5, 1) := by decide +kernel
theorem dX11_rule_3 : decode cX11_rule 3 = .ok (.invokestatic 104, 3) := by decide +kernel
theorem dX11_rule_6 : decode cX11_rule 6 = .ok (.ifCond .eq 14, 3) := by decide +kernel
theorem dX11_rule_9 : decode cX11_rule 9 = .ok (.aload_n 0, 1) := by decide +kernel
theorem dX11_rule_10 : decode cX11_rule 10 = .ok (.getfield 10, 3) := by decide +kernel
theorem dX11_rule_13 : decode cX11_rule 13 = .ok (.iload_n 1, 1) := by decide +kernel
theorem dX11_rule_14 : decode cX11_rule 14 = .ok (.invokevirtual 122, 3) := by decide +kernel
theorem dX11_rule_17 : decode cX11_rule 17 = .ok (.goto 4, 3) := by decide +kernel
theorem dX11_rule_20 : decode cX11_rule 20 = .ok (.iconst (-1), 1) := by decide +kernel
theorem dX11_rule_21 : decode cX11_rule 21 = .ok (.ireturn, 1) := by decide +kernel
set_option maxRecDepth 20000 in
theorem ggX11_row_X11_isLoudness : GoodIn wsX11_row wsX11_isLoudness := goodIn_r _ [5, 6, 7, 4, 8] (by decide +kernel) (by decide +kernel)
set_option maxRecDepth 20000 in
theorem gX11_row_X11_isLoudness : GoodIn wsX11_row (va_wsS RX11 126 yX11_isLoudness wsX11_isLoudness) := goodIn_app (goodIn_of _ (by decide +kernel)) ggX11_row_X11_isLoudness
set_option maxRecDepth 20000 in
theorem ggX11_row_X11_nothingIsFound : GoodIn wsX11_row wsX11_nothingIsFound := goodIn_r _ [12, 13, 14, 15, 30, 31, 32, 33, 34, 35, 36, 37, 38, 39, 40, 41, 42, 43, 44, 45] (by decide +kernel) (by decide +kernel)
set_option maxRecDepth 20000 in
theorem gX11_row_X11_nothingIsFound : GoodIn wsX11_row (wsV RX11 119 RX11 yX11_nothingIsFound wsX11_nothingIsFound) := goodIn_app (goodIn_of _ (by decide +kernel)) ggX11_row_X11_nothingIsFound
set_option maxRecDepth 20000 in
theorem ggX11_row_X7_addRow : GoodIn wsX11_row wsX7_addRow := goodIn_r _ [20, 21, 22, 23, 24, 25, 19, 26, 27, 28, 29, 46, 47, 48, 49, 50] (by decide +kernel) (by decide +kernel)
set_option maxRecDepth 20000 in
theorem gX11_row_X7_addRow : GoodIn wsX11_row (wsV RX11 133 RX7 yX7_addRow wsX7_addRow) := goodIn_app (goodIn_of _ (by decide +kernel)) ggX11_row_X7_addRow
theorem dX11_row_0 : decode cX11_row 0 = .ok (.iload_n 1, 1) := by decide +kernel
theorem dX11_row_1 : decode cX11_row 1 = .ok (.invokestatic 126, 3) := by decide +kernel
theorem dX11_row_4 : decode cX11_row 4 = .ok (.ifCond .eq 25, 3) := by decide +kernel
theorem dX11_row_7 : decode cX11_row 7 = .ok (.iload_n 2, 1) := by decide +kernel
theorem dX11_row_8 : decode cX11_row 8 = .ok (.invokestatic 126, 3) := by decide +kernel
theorem dX11_row_11 : decode cX11_row 11 = .ok (.ifCond .eq 18, 3) := by decide +kernel
theorem dX11_row_14 : decode cX11_row 14 = .ok (.iload_n 3, 1) := by decide +kernel
theorem dX11_row_15 : decode cX11_row 15 = .ok (.invokestatic 126, 3) := by decide +kernel
theorem dX11_row_18 : decode cX11_row 18 = .ok (.ifCond .eq 11, 3) := by decide +kernel
theorem dX11_row_21 : decode cX11_row 21 = .ok (.iload 4, 2) := by decide +kernel
theorem dX11_row_23 : decode cX11_row 23 = .ok (.invokestatic 126, 3) := by decide +kernel
theorem dX11_row_26 : decode cX11_row 26 = .ok (.ifCond .ne 5, 3) := by decide +kernel
theorem dX11_row_29 : decode cX11_row 29 = .ok (.iconst (-1), 1) := by decide +kernel
theorem dX11_row_30 : decode cX11_row 30 = .ok (.ireturn, 1) := by decide +kernel
theorem dX11_row_31 : decode cX11_row 31 = .ok (.aload_n 0, 1) := by decide +kernel
theorem dX11_row_32 : decode cX11_row 32 = .ok (.getfield 19, 3) := by decide +kernel
theorem dX11_row_35 : decode cX11_row 35 = .ok (.getfield 130, 3) := by decide +kernel
theorem dX11_row_38 : decode cX11_row 38 = .ok (.bipush 48, 2) := by decide +kernel
theorem dX11_row_40 : decode cX11_row 40 = .ok (.if_icmp .lt 6, 3) := by decide +kernel
theorem dX11_row_46 : decode cX11_row 46 = .ok (.aload_n 0, 1) := by decide +kernel
theorem dX11_row_47 : decode cX11_row 47 = .ok (.invokevirtual 119, 3) := by decide +kernel
theorem dX11_row_50 : decode cX11_row 50 = .ok (.aload_n 0, 1) := by decide +kernel
theorem dX11_row_51 : decode cX11_row 51 = .ok (.getfield 19, 3) := by decide +kernel
theorem dX11_row_54 : decode cX11_row 54 = .ok (.iload_n 1, 1) := by decide +kernel
theorem dX11_row_55 : decode cX11_row 55 = .ok (.iload_n 2, 1) := by decide +kernel
theorem dX11_row_56 : decode cX11_row 56 = .ok (.iload_n 3, 1) := by decide +kernel
theorem dX11_row_57 : decode cX11_row 57 = .ok (.iload 4, 2) := by decide +kernel
theorem dX11_row_59 : decode cX11_row 59 = .ok (.invokevirtual 133, 3) := by decide +kernel
theorem dX11_row_62 : decode cX11_row 62 = .ok (.ireturn, 1) := by decide +kernel
set_option maxRecDepth 20000 in
theorem ggX11_deaf_X11_within : GoodIn wsX11_deaf wsX11_within := goodIn_r _ [5] (by decide +kernel) (by decide +kernel)
set_option maxRecDepth 20000 in
theorem gX11_deaf_X11_within : GoodIn wsX11_deaf (va_wsS RX11 104 yX11_within wsX11_within) := goodIn_app (goodIn_of _ (by decide +kernel)) ggX11_deaf_X11_within
set_option maxRecDepth 20000 in
theorem ggX11_deaf_X11_nothingIsFound : GoodIn wsX11_deaf wsX11_nothingIsFound := goodIn_r _ [9, 10, 11, 12, 22, 23, 24, 25, 26, 27, 28, 29, 30, 31, 32, 33, 34, 35, 36, 37] (by decide +kernel) (by decide +kernel)
set_option maxRecDepth 20000 in
theorem gX11_deaf_X11_nothingIsFound : GoodIn wsX11_deaf (wsV RX11 119 RX11 yX11_nothingIsFound wsX11_nothingIsFound) := goodIn_app (goodIn_of _ (by decide +kernel)) ggX11_deaf_X11_nothingIsFound
set_option maxRecDepth 20000 in
theorem ggX11_deaf_X7_addDeaf : GoodIn wsX11_deaf wsX7_addDeaf := goodIn_r _ [17, 18, 19, 20, 21, 38, 39, 40, 41, 42] (by decide +kernel) (by decide +kernel)
set_option maxRecDepth 20000 in
theorem gX11_deaf_X7_addDeaf : GoodIn wsX11_deaf (wsV RX11 137 RX7 yX7_addDeaf wsX7_addDeaf) := goodIn_app (goodIn_of _ (by decide +kernel)) ggX11_deaf_X7_addDeaf
theorem dX11_deaf_0 : decode cX11_deaf 0 = .ok (.iload_n 1, 1) := by decide +kernel
theorem dX11_deaf_1 : decode cX11_deaf 1 = .ok (.iconst 1, 1) := by decide +kernel
theorem dX11_deaf_2 : decode cX11_deaf 2 = .ok (.bipush 9, 2) := by decide +kernel
theorem dX11_deaf_4 : decode cX11_deaf 4 = .ok (.invokestatic 104, 3) := by decide +kernel
theorem dX11_deaf_7 : decode cX11_deaf 7 = .ok (.ifCond .ne 5, 3) := by decide +kernel
theorem dX11_deaf_10 : decode cX11_deaf 10 = .ok (.iconst (-1), 1) := by decide +kernel
theorem dX11_deaf_11 : decode cX11_deaf 11 = .ok (.ireturn, 1) := by decide +kernel
theorem dX11_deaf_12 : decode cX11_deaf 12 = .ok (.aload_n 0, 1) := by decide +kernel
theorem dX11_deaf_13 : decode cX11_deaf 13 = .ok (.getfield 19, 3) := by decide +kernel
theorem dX11_deaf_16 : decode cX11_deaf 16 = .ok (.getfield 130, 3) := by decide +kernel
theorem dX11_deaf_19 : decode cX11_deaf 19 = .ok (.iload_n 1, 1) := by decide +kernel
theorem dX11_deaf_20 : decode cX11_deaf 20 = .ok (.iadd, 1) := by decide +kernel
theorem dX11_deaf_21 : decode cX11_deaf 21 = .ok (.bipush 48, 2) := by decide +kernel
theorem dX11_deaf_23 : decode cX11_deaf 23 = .ok (.if_icmp .le 6, 3) := by decide +kernel
theorem dX11_deaf_29 : decode cX11_deaf 29 = .ok (.aload_n 0, 1) := by decide +kernel
theorem dX11_deaf_30 : decode cX11_deaf 30 = .ok (.invokevirtual 119, 3) := by decide +kernel
theorem dX11_deaf_33 : decode cX11_deaf 33 = .ok (.iconst 0, 1) := by decide +kernel
theorem dX11_deaf_34 : decode cX11_deaf 34 = .ok (.istore_n 2, 1) := by decide +kernel
theorem dX11_deaf_35 : decode cX11_deaf 35 = .ok (.iload_n 2, 1) := by decide +kernel
theorem dX11_deaf_36 : decode cX11_deaf 36 = .ok (.iload_n 1, 1) := by decide +kernel
theorem dX11_deaf_37 : decode cX11_deaf 37 = .ok (.if_icmp .ge 17, 3) := by decide +kernel
theorem dX11_deaf_40 : decode cX11_deaf 40 = .ok (.aload_n 0, 1) := by decide +kernel
theorem dX11_deaf_41 : decode cX11_deaf 41 = .ok (.getfield 19, 3) := by decide +kernel
theorem dX11_deaf_44 : decode cX11_deaf 44 = .ok (.invokevirtual 137, 3) := by decide +kernel
theorem dX11_deaf_47 : decode cX11_deaf 47 = .ok (.pop, 1) := by decide +kernel
theorem dX11_deaf_48 : decode cX11_deaf 48 = .ok (.iinc 2 1, 3) := by decide +kernel
theorem dX11_deaf_51 : decode cX11_deaf 51 = .ok (.goto (-16), 3) := by decide +kernel
theorem dX11_deaf_54 : decode cX11_deaf 54 = .ok (.aload_n 0, 1) := by decide +kernel
theorem dX11_deaf_55 : decode cX11_deaf 55 = .ok (.getfield 19, 3) := by decide +kernel
theorem dX11_deaf_58 : decode cX11_deaf 58 = .ok (.getfield 130, 3) := by decide +kernel
theorem dX11_deaf_61 : decode cX11_deaf 61 = .ok (.ireturn, 1) := by decide +kernel
set_option maxRecDepth 20000 in
theorem ggX11_out_X11_areRows : GoodIn wsX11_out wsX11_areRows := goodIn_r _ [6, 1, 28, 29, 30, 31, 32, 33, 34, 35, 36, 37, 38, 39, 40, 41, 42, 43, 44, 45, 46, 47, 48] (by decide +kernel) (by decide +kernel)
set_option maxRecDepth 20000 in
theorem gX11_out_X11_areRows : GoodIn wsX11_out (wsV RX11 140 RX11 yX11_areRows wsX11_areRows) := goodIn_app (goodIn_of _ (by decide +kernel)) ggX11_out_X11_areRows
theorem dX11_out_0 : decode cX11_out 0 = .ok (.aload_n 0, 1) := by decide +kernel
theorem dX11_out_1 : decode cX11_out 1 = .ok (.iload_n 1, 1) := by decide +kernel
theorem dX11_out_2 : decode cX11_out 2 = .ok (.iload_n 2, 1) := by decide +kernel
theorem dX11_out_3 : decode cX11_out 3 = .ok (.invokevirtual 140, 3) := by decide +kernel
theorem dX11_out_6 : decode cX11_out 6 = .ok (.ifCond .eq 12, 3) := by decide +kernel
theorem dX11_out_18 : decode cX11_out 18 = .ok (.iconst (-1), 1) := by decide +kernel
theorem dX11_out_19 : decode cX11_out 19 = .ok (.ireturn, 1) := by decide +kernel
set_option maxRecDepth 20000 in
theorem ggX11_hush_X11_nothingIsFound : GoodIn wsX11_hush wsX11_nothingIsFound := goodIn_r _ [8, 9, 10, 11, 12, 13, 14, 15, 16, 17, 18, 19, 20, 21, 22, 23, 24, 25, 26, 27] (by decide +kernel) (by decide +kernel)
set_option maxRecDepth 20000 in
theorem gX11_hush_X11_nothingIsFound : GoodIn wsX11_hush (wsV RX11 119 RX11 yX11_nothingIsFound wsX11_nothingIsFound) := goodIn_app (goodIn_of _ (by decide +kernel)) ggX11_hush_X11_nothingIsFound
theorem dX11_hush_0 : decode cX11_hush 0 = .ok (.aload_n 0, 1) := by decide +kernel
theorem dX11_hush_1 : decode cX11_hush 1 = .ok (.getfield 19, 3) := by decide +kernel
theorem dX11_hush_4 : decode cX11_hush 4 = .ok (.getfield 130, 3) := by decide +kernel
theorem dX11_hush_7 : decode cX11_hush 7 = .ok (.istore_n 1, 1) := by decide +kernel
theorem dX11_hush_8 : decode cX11_hush 8 = .ok (.aload_n 0, 1) := by decide +kernel
theorem dX11_hush_9 : decode cX11_hush 9 = .ok (.getfield 19, 3) := by decide +kernel
theorem dX11_hush_12 : decode cX11_hush 12 = .ok (.iconst 0, 1) := by decide +kernel
theorem dX11_hush_13 : decode cX11_hush 13 = .ok (.putfield 130, 3) := by decide +kernel
theorem dX11_hush_16 : decode cX11_hush 16 = .ok (.aload_n 0, 1) := by decide +kernel
theorem dX11_hush_17 : decode cX11_hush 17 = .ok (.getfield 68, 3) := by decide +kernel
theorem dX11_hush_20 : decode cX11_hush 20 = .ok (.iconst 0, 1) := by decide +kernel
theorem dX11_hush_21 : decode cX11_hush 21 = .ok (.putfield 148, 3) := by decide +kernel
theorem dX11_hush_24 : decode cX11_hush 24 = .ok (.aload_n 0, 1) := by decide +kernel
theorem dX11_hush_25 : decode cX11_hush 25 = .ok (.iconst (-1), 1) := by decide +kernel
theorem dX11_hush_26 : decode cX11_hush 26 = .ok (.putfield 90, 3) := by decide +kernel
theorem dX11_hush_29 : decode cX11_hush 29 = .ok (.aload_n 0, 1) := by decide +kernel
theorem dX11_hush_30 : decode cX11_hush 30 = .ok (.invokevirtual 119, 3) := by decide +kernel
theorem dX11_hush_33 : decode cX11_hush 33 = .ok (.iload_n 1, 1) := by decide +kernel
theorem dX11_hush_34 : decode cX11_hush 34 = .ok (.ireturn, 1) := by decide +kernel
set_option maxRecDepth 20000 in
theorem ggX11_pieces_X11_cutNow : GoodIn wsX11_pieces wsX11_cutNow := goodIn_r _ [6, 7, 1, 8, 9, 10, 11, 12, 13, 14, 15, 16, 17, 18, 19, 20, 21, 22, 23, 24, 25, 26, 27, 28, 29, 30, 31, 32, 33, 34, 35, 36, 37, 38, 39, 40, 41, 42, 43, 44, 45, 46, 47, 48, 49, 50, 51, 52, 53, 54, 55, 56, 57, 58, 59, 60, 61, 62, 63, 64, 65, 66, 67, 68, 69, 70, 71, 72, 73, 74, 75, 76, 77, 78, 79, 80, 81, 82, 83, 84, 85, 86, 87, 88, 89, 90, 91, 92, 93, 94, 107, 108, 109, 110, 111, 95, 96, 97, 98, 99, 100, 101, 102, 103, 104, 105, 106, 112, 113, 114, 115, 116, 117, 118, 119] (by decide +kernel) (by decide +kernel)
set_option maxRecDepth 20000 in
theorem gX11_pieces_X11_cutNow : GoodIn wsX11_pieces (wsV RX11 151 RX11 yX11_cutNow wsX11_cutNow) := goodIn_app (goodIn_of _ (by decide +kernel)) ggX11_pieces_X11_cutNow
theorem dX11_pieces_0 : decode cX11_pieces 0 = .ok (.aload_n 0, 1) := by decide +kernel
theorem dX11_pieces_1 : decode cX11_pieces 1 = .ok (.invokevirtual 151, 3) := by decide +kernel
theorem dX11_pieces_4 : decode cX11_pieces 4 = .ok (.iload_n 1, 1) := by decide +kernel
theorem dX11_pieces_5 : decode cX11_pieces 5 = .ok (.tableswitch 63 0 3 #[31, 39, 47, 55], 31) := by decide +kernel
theorem dX11_pieces_36 : decode cX11_pieces 36 = .ok (.aload_n 0, 1) := by decide +kernel
theorem dX11_pieces_37 : decode cX11_pieces 37 = .ok (.getfield 33, 3) := by decide +kernel
theorem dX11_pieces_40 : decode cX11_pieces 40 = .ok (.getfield 154, 3) := by decide +kernel
theorem dX11_pieces_43 : decode cX11_pieces 43 = .ok (.ireturn, 1) := by decide +kernel
theorem dX11_pieces_44 : decode cX11_pieces 44 = .ok (.aload_n 0, 1) := by decide +kernel
theorem dX11_pieces_45 : decode cX11_pieces 45 = .ok (.getfield 33, 3) := by decide +kernel
theorem dX11_pieces_48 : decode cX11_pieces 48 = .ok (.getfield 157, 3) := by decide +kernel
theorem dX11_pieces_51 : decode cX11_pieces 51 = .ok (.ireturn, 1) := by decide +kernel
theorem dX11_pieces_52 : decode cX11_pieces 52 = .ok (.aload_n 0, 1) := by decide +kernel
theorem dX11_pieces_53 : decode cX11_pieces 53 = .ok (.getfield 33, 3) := by decide +kernel
theorem dX11_pieces_56 : decode cX11_pieces 56 = .ok (.getfield 160, 3) := by decide +kernel
theorem dX11_pieces_59 : decode cX11_pieces 59 = .ok (.ireturn, 1) := by decide +kernel
theorem dX11_pieces_60 : decode cX11_pieces 60 = .ok (.aload_n 0, 1) := by decide +kernel
theorem dX11_pieces_61 : decode cX11_pieces 61 = .ok (.getfield 33, 3) := by decide +kernel
theorem dX11_pieces_64 : decode cX11_pieces 64 = .ok (.getfield 163, 3) := by decide +kernel
theorem dX11_pieces_67 : decode cX11_pieces 67 = .ok (.ireturn, 1) := by decide +kernel
theorem dX11_pieces_68 : decode cX11_pieces 68 = .ok (.iconst (-1), 1) := by decide +kernel
theorem dX11_pieces_69 : decode cX11_pieces 69 = .ok (.ireturn, 1) := by decide +kernel
set_option maxRecDepth 20000 in
theorem ggX11_piece_X11_isPiece : GoodIn wsX11_piece wsX11_isPiece := goodIn_r _ [6, 1, 7, 8, 9, 5, 10, 11, 12, 13, 14, 15, 16, 17, 18, 19, 20, 21, 22, 23, 24, 25, 26, 27, 28, 29, 30, 31, 32, 33, 34, 35, 36, 37, 38, 39, 40, 41, 42, 43, 44, 45, 46, 47, 48, 49, 50, 51, 52, 53, 54, 55, 56, 57, 58, 59, 60, 61, 62, 63, 64, 65, 66, 67, 68, 69, 70, 71, 72, 73, 74, 75, 76, 77, 78, 79, 80, 81, 82, 83, 84, 85, 90, 91, 92, 93, 94, 95, 96, 97, 98, 99, 100, 101, 102, 103, 104, 105, 106, 107, 108, 109, 110, 111, 112, 113, 114, 115, 116, 117, 118, 119, 120, 121, 122, 123, 124, 125, 126, 127, 128, 129, 130] (by decide +kernel) (by decide +kernel)
set_option maxRecDepth 20000 in
theorem gX11_piece_X11_isPiece : GoodIn wsX11_piece (wsV RX11 166 RX11 yX11_isPiece wsX11_isPiece) := goodIn_app (goodIn_of _ (by decide +kernel)) ggX11_piece_X11_isPiece
theorem dX11_piece_0 : decode cX11_piece 0 = .ok (.aload_n 0, 1) := by decide +kernel
theorem dX11_piece_1 : decode cX11_piece 1 = .ok (.iload_n 1, 1) := by decide +kernel
theorem dX11_piece_2 : decode cX11_piece 2 = .ok (.invokevirtual 166, 3) := by decide +kernel
theorem dX11_piece_5 : decode cX11_piece 5 = .ok (.ifCond .ne 5, 3) := by decide +kernel
theorem dX11_piece_8 : decode cX11_piece 8 = .ok (.iconst (-1), 1) := by decide +kernel
theorem dX11_piece_9 : decode cX11_piece 9 = .ok (.ireturn, 1) := by decide +kernel
set_option maxRecDepth 20000 in
theorem ggX11_of_X11_within : GoodIn wsX11_of wsX11_within := goodIn_r _ [6] (by decide +kernel) (by decide +kernel)
set_option maxRecDepth 20000 in
theorem gX11_of_X11_within : GoodIn wsX11_of (va_wsS RX11 104 yX11_within wsX11_within) := goodIn_app (goodIn_of _ (by decide +kernel)) ggX11_of_X11_within
theorem dX11_of_0 : decode cX11_of 0 = .ok (.iload_n 1, 1) := by decide +kernel
theorem dX11_of_1 : decode cX11_of 1 = .ok (.iconst 0, 1) := by decide +kernel
theorem dX11_of_2 : decode cX11_of 2 = .ok (.aload_n 0, 1) := by decide +kernel
theorem dX11_of_3 : decode cX11_of 3 = .ok (.getfield 19, 3) := by decide +kernel
theorem dX11_of_6 : decode cX11_of 6 = .ok (.getfield 130, 3) := by decide +kernel
theorem dX11_of_9 : decode cX11_of 9 = .ok (.iconst 1, 1) := by decide +kernel
theorem dX11_of_10 : decode cX11_of 10 = .ok (.isub, 1) := by decide +kernel
theorem dX11_of_11 : decode cX11_of 11 = .ok (.invokestatic 104, 3) := by decide +kernel
theorem dX11_of_14 : decode cX11_of 14 = .ok (.ifCond .ne 5, 3) := by decide +kernel
theorem dX11_of_17 : decode cX11_of 17 = .ok (.iconst (-1), 1) := by decide +kernel
theorem dX11_of_18 : decode cX11_of 18 = .ok (.ireturn, 1) := by decide +kernel
set_option maxRecDepth 20000 in
theorem ggX11_like_X11_isPiece : GoodIn wsX11_like wsX11_isPiece := goodIn_r _ [8, 2, 9, 10, 11, 7, 12, 13, 14, 15, 3, 16, 17, 18, 19, 20, 21, 22, 23, 24, 25, 26, 27, 28, 29, 30, 31, 32, 33, 34, 35, 36, 37, 38, 39, 40, 41, 42, 43, 44, 45, 46, 47, 48, 49, 50, 51, 52, 53, 54, 55, 56, 57, 58, 59, 60, 61, 62, 63, 64, 65, 66, 67, 68, 69, 70, 71, 72, 73, 74, 75, 76, 77, 78, 79, 80, 81, 82, 83, 84, 85, 86, 96, 97, 98, 99, 100, 101, 102, 103, 104, 105, 106, 107, 108, 109, 110, 111, 112, 113, 114, 115, 116, 117, 118, 119, 120, 121, 122, 123, 124, 125, 126, 127, 128, 129, 130, 131, 132, 133, 134, 135, 136] (by decide +kernel) (by decide +kernel)
set_option maxRecDepth 20000 in
theorem gX11_like_X11_isPiece : GoodIn wsX11_like (wsV RX11 166 RX11 yX11_isPiece wsX11_isPiece) := goodIn_app (goodIn_of _ (by decide +kernel)) ggX11_like_X11_isPiece
theorem dX11_like_0 : decode cX11_like 0 = .ok (.aload_n 0, 1) := by decide +kernel
theorem dX11_like_1 : decode cX11_like 1 = .ok (.iload_n 1, 1) := by decide +kernel
theorem dX11_like_2 : decode cX11_like 2 = .ok (.invokevirtual 166, 3) := by decide +kernel
theorem dX11_like_5 : decode cX11_like 5 = .ok (.ifCond .eq 16, 3) := by decide +kernel
theorem dX11_like_21 : decode cX11_like 21 = .ok (.ldc 185, 2) := by decide +kernel
theorem dX11_like_23 : decode cX11_like 23 = .ok (.ireturn, 1) := by decide +kernel
set_option maxRecDepth 20000 in
theorem ggX11_heap_X11_isPiece : GoodIn wsX11_heap wsX11_isPiece := goodIn_r _ [5, 6, 7, 8, 9, 4, 10, 11, 12, 13, 14, 15, 16, 17, 18, 19, 20, 21, 22, 23, 24, 25, 26, 27, 28, 29, 30, 31, 32, 33, 34, 35, 36, 37, 38, 39, 40, 41, 42, 43, 44, 45, 46, 47, 48, 49, 50, 51, 52, 53, 54, 55, 56, 57, 58, 59, 60, 61, 62, 63, 64, 65, 66, 67, 68, 69, 70, 71, 72, 73, 74, 75, 76, 77, 78, 79, 80, 81, 82, 83, 84, 85, 197, 198, 199, 200, 201, 202, 203, 204, 205, 206, 207, 208, 209, 210, 211, 212, 213, 214, 215, 216, 217, 218, 219, 220, 221, 222, 223, 224, 225, 226, 227, 228, 229, 230, 231, 232, 233, 234, 235, 236, 237] (by decide +kernel) (by decide +kernel)
set_option maxRecDepth 20000 in
theorem gX11_heap_X11_isPiece : GoodIn wsX11_heap (wsV RX11 166 RX11 yX11_isPiece wsX11_isPiece) := goodIn_app (goodIn_of _ (by decide +kernel)) ggX11_heap_X11_isPiece
theorem dX11_heap_0 : decode cX11_heap 0 = .ok (.aload_n 0, 1) := by decide +kernel
theorem dX11_heap_1 : decode cX11_heap 1 = .ok (.iload_n 1, 1) := by decide +kernel
theorem dX11_heap_2 : decode cX11_heap 2 = .ok (.invokevirtual 166, 3) := by decide +kernel
theorem dX11_heap_5 : decode cX11_heap 5 = .ok (.ifCond .eq 12, 3) := by decide +kernel
theorem dX11_heap_17 : decode cX11_heap 17 = .ok (.iconst (-1), 1) := by decide +kernel
theorem dX11_heap_18 : decode cX11_heap 18 = .ok (.ireturn, 1) := by decide +kernel
set_option maxRecDepth 20000 in
theorem ggX11_worth_X11_within : GoodIn wsX11_worth wsX11_within := goodIn_r _ [5] (by decide +kernel) (by decide +kernel)
set_option maxRecDepth 20000 in
theorem gX11_worth_X11_within : GoodIn wsX11_worth (va_wsS RX11 104 yX11_within wsX11_within) := goodIn_app (goodIn_of _ (by decide +kernel)) ggX11_worth_X11_within
set_option maxRecDepth 20000 in
theorem ggX11_worth_X11_heapNow : GoodIn wsX11_worth wsX11_heapNow := goodIn_r _ [9, 10, 11, 12, 13, 14, 15, 16, 17, 18, 19, 20, 4, 21, 22, 23, 24, 25, 26, 27, 28, 29, 30, 31, 32, 33, 34, 35, 36, 37, 38, 39, 40, 41, 42, 43, 44, 45, 46, 47, 48, 49, 50, 51, 52, 53, 54, 55, 56, 57, 58, 59, 60, 61, 62, 63, 64, 65, 66, 67, 68, 69, 70, 71, 72, 73, 74, 75, 76, 77, 78, 79, 80, 81, 82, 83, 84, 85, 86, 87, 88, 89, 90, 91, 92, 93, 94, 95, 96, 97, 98, 99, 100, 101, 102, 103, 104, 105, 106, 107, 108, 109, 110, 111, 112, 113, 114, 115, 116, 117, 118, 119, 120, 121, 122, 123, 124, 125, 126, 127, 128, 129, 130, 131, 132, 133, 134, 135, 136, 137, 138, 139, 140, 141, 142, 143, 144, 145, 146, 147, 148, 149, 150, 151, 152, 153, 154, 155, 156, 157, 158, 159, 160, 161, 162, 163, 164, 165, 166, 167, 168, 169, 170, 171, 172, 173, 174, 175, 176, 177, 178, 179, 180, 181, 182, 183, 184, 194, 195, 196, 197, 198, 199, 200, 201, 202, 203, 204, 205, 206, 207, 208, 209, 210, 211, 212, 213, 214, 215, 216, 217, 218, 219, 220, 221, 222, 223, 224, 225, 226, 227, 228, 229, 230, 231, 232, 233, 234, 235, 236, 237, 238, 239, 240, 241, 242, 243, 244, 245, 246, 247, 248, 189, 190, 191, 192, 193] (by decide +kernel) (by decide +kernel)
set_option maxRecDepth 20000 in
theorem gX11_worth_X11_heapNow : GoodIn wsX11_worth (wsV RX11 190 RX11 yX11_heapNow wsX11_heapNow) := goodIn_app (goodIn_of _ (by decide +kernel)) ggX11_worth_X11_heapNow
set_option maxRecDepth 20000 in
theorem ggX11_worth_X11_byWay : GoodIn wsX11_worth wsX11_byWay := goodIn_r _ [188, 14, 17, 194, 195, 196, 197, 198, 199, 200, 201, 202, 203, 204, 205, 206, 207, 208, 209, 222, 223, 224, 225, 226, 227, 228, 229, 230, 231] (by decide +kernel) (by decide +kernel)
set_option maxRecDepth 20000 in
theorem gX11_worth_X11_byWay : GoodIn wsX11_worth (wsV RX11 194 RX11 yX11_byWay wsX11_byWay) := goodIn_app (goodIn_of _ (by decide +kernel)) ggX11_worth_X11_byWay
theorem dX11_worth_0 : decode cX11_worth 0 = .ok (.iload_n 1, 1) := by decide +kernel
theorem dX11_worth_1 : decode cX11_worth 1 = .ok (.iconst 0, 1) := by decide +kernel
theorem dX11_worth_2 : decode cX11_worth 2 = .ok (.iconst 1, 1) := by decide +kernel
theorem dX11_worth_3 : decode cX11_worth 3 = .ok (.invokestatic 104, 3) := by decide +kernel
theorem dX11_worth_6 : decode cX11_worth 6 = .ok (.ifCond .eq 10, 3) := by decide +kernel
theorem dX11_worth_9 : decode cX11_worth 9 = .ok (.aload_n 0, 1) := by decide +kernel
theorem dX11_worth_10 : decode cX11_worth 10 = .ok (.invokevirtual 190, 3) := by decide +kernel
theorem dX11_worth_13 : decode cX11_worth 13 = .ok (.ifCond .ne 6, 3) := by decide +kernel
theorem dX11_worth_16 : decode cX11_worth 16 = .ok (.ldc 185, 2) := by decide +kernel
theorem dX11_worth_18 : decode cX11_worth 18 = .ok (.ireturn, 1) := by decide +kernel
theorem dX11_worth_19 : decode cX11_worth 19 = .ok (.aload_n 0, 1) := by decide +kernel
theorem dX11_worth_20 : decode cX11_worth 20 = .ok (.iload_n 1, 1) := by decide +kernel
theorem dX11_worth_21 : decode cX11_worth 21 = .ok (.invokevirtual 194, 3) := by decide +kernel
theorem dX11_worth_24 : decode cX11_worth 24 = .ok (.getfield 201, 3) := by decide +kernel
theorem dX11_worth_27 : decode cX11_worth 27 = .ok (.ireturn, 1) := by decide +kernel
set_option maxRecDepth 20000 in
theorem ggX11_near_X11_within : GoodIn wsX11_near wsX11_within := goodIn_r _ [5] (by decide +kernel) (by decide +kernel)
set_option maxRecDepth 20000 in
theorem gX11_near_X11_within : GoodIn wsX11_near (va_wsS RX11 104 yX11_within wsX11_within) := goodIn_app (goodIn_of _ (by decide +kernel)) ggX11_near_X11_within
set_option maxRecDepth 20000 in
theorem ggX11_near_X11_heapNow : GoodIn wsX11_near wsX11_heapNow := goodIn_r _ [9, 10, 11, 12, 13, 1, 14, 15, 16, 17, 18, 19, 4, 20, 21, 22, 23, 24, 25, 26, 27, 28, 29, 30, 31, 32, 33, 34, 35, 36, 37, 38, 39, 40, 41, 42, 43, 44, 45, 46, 47, 48, 49, 50, 51, 52, 53, 54, 55, 56, 57, 58, 59, 60, 61, 62, 63, 64, 65, 66, 67, 68, 69, 70, 71, 72, 73, 74, 75, 76, 77, 78, 79, 80, 81, 82, 83, 84, 85, 86, 87, 88, 89, 90, 91, 92, 93, 94, 95, 96, 97, 98, 99, 100, 101, 102, 103, 104, 105, 106, 107, 108, 109, 110, 111, 112, 113, 114, 115, 116, 117, 118, 119, 120, 121, 122, 123, 124, 125, 126, 127, 128, 129, 130, 131, 132, 133, 134, 135, 136, 137, 138, 139, 140, 141, 142, 143, 144, 145, 146, 147, 148, 149, 150, 151, 152, 153, 154, 155, 156, 157, 158, 159, 160, 161, 162, 163, 164, 165, 166, 167, 168, 169, 170, 171, 172, 173, 174, 175, 176, 177, 178, 179, 180, 181, 182, 183, 203, 204, 205, 206, 207, 208, 209, 210, 211, 212, 213, 214, 215, 216, 217, 218, 229, 230, 231, 232, 233, 234, 235, 236, 237, 238, 239, 240, 219, 220, 221, 222, 223, 224, 225, 226, 227, 228, 241, 242, 243, 244, 245, 246, 247, 248, 249, 250, 251, 252, 253, 254, 255, 256, 257, 198, 199, 200, 201, 202] (by decide +kernel) (by decide +kernel)
set_option maxRecDepth 20000 in
theorem gX11_near_X11_heapNow : GoodIn wsX11_near (wsV RX11 190 RX11 yX11_heapNow wsX11_heapNow) := goodIn_app (goodIn_of _ (by decide +kernel)) ggX11_near_X11_heapNow
set_option maxRecDepth 20000 in
theorem ggX11_near_X11_byWay : GoodIn wsX11_near wsX11_byWay := goodIn_r _ [187, 1, 16, 203, 204, 205, 206, 207, 208, 209, 210, 211, 212, 213, 214, 215, 216, 217, 218, 219, 220, 221, 222, 223, 224, 225, 226, 227, 228] (by decide +kernel) (by decide +kernel)
set_option maxRecDepth 20000 in
theorem gX11_near_X11_byWay : GoodIn wsX11_near (wsV RX11 194 RX11 yX11_byWay wsX11_byWay) := goodIn_app (goodIn_of _ (by decide +kernel)) ggX11_near_X11_byWay
set_option maxRecDepth 20000 in
theorem ggX11_near_X11_nearNow : GoodIn wsX11_near wsX11_nearNow := goodIn_r _ [191, 192, 1, 12, 13, 22, 23, 24, 25, 26, 27, 193, 194, 195, 120, 196, 122, 123, 140, 141, 142, 144, 197, 145, 146, 125, 126, 40, 41, 42, 127, 128, 129, 130, 131, 70, 71, 72, 132, 133, 134, 135, 136, 137, 138, 139, 143, 79, 80, 147, 148, 149, 93, 150, 116, 151, 152, 153, 203, 204, 205, 206, 207, 208, 209, 210, 211, 212, 213, 214, 215, 216, 217, 218, 241, 242, 243, 244, 245, 219, 220, 221, 222, 223, 224, 225, 226, 227, 228, 198, 199, 200, 201, 202, 254, 255, 256, 257] (by decide +kernel) (by decide +kernel)
set_option maxRecDepth 20000 in
theorem gX11_near_X11_nearNow : GoodIn wsX11_near (wsV RX11 207 RX11 yX11_nearNow wsX11_nearNow) := goodIn_app (goodIn_of _ (by decide +kernel)) ggX11_near_X11_nearNow
theorem dX11_near_0 : decode cX11_near 0 = .ok (.iload_n 1, 1) := by decide +kernel
theorem dX11_near_1 : decode cX11_near 1 = .ok (.iconst 0, 1) := by decide +kernel
theorem dX11_near_2 : decode cX11_near 2 = .ok (.iconst 4, 1) := by decide +kernel
theorem dX11_near_3 : decode cX11_near 3 = .ok (.invokestatic 104, 3) := by decide +kernel
theorem dX11_near_6 : decode cX11_near 6 = .ok (.ifCond .ne 5, 3) := by decide +kernel
theorem dX11_near_9 : decode cX11_near 9 = .ok (.iconst (-1), 1) := by decide +kernel
theorem dX11_near_10 : decode cX11_near 10 = .ok (.ireturn, 1) := by decide +kernel
theorem dX11_near_11 : decode cX11_near 11 = .ok (.aload_n 0, 1) := by decide +kernel
theorem dX11_near_12 : decode cX11_near 12 = .ok (.invokevirtual 190, 3) := by decide +kernel
theorem dX11_near_15 : decode cX11_near 15 = .ok (.ifCond .ne 6, 3) := by decide +kernel
theorem dX11_near_21 : decode cX11_near 21 = .ok (.iload_n 1, 1) := by decide +kernel
theorem dX11_near_22 : decode cX11_near 22 = .ok (.iconst 2, 1) := by decide +kernel
theorem dX11_near_23 : decode cX11_near 23 = .ok (.if_icmp .le 14, 3) := by decide +kernel
theorem dX11_near_26 : decode cX11_near 26 = .ok (.aload_n 0, 1) := by decide +kernel
theorem dX11_near_27 : decode cX11_near 27 = .ok (.iload_n 1, 1) := by decide +kernel
theorem dX11_near_28 : decode cX11_near 28 = .ok (.iconst 3, 1) := by decide +kernel
theorem dX11_near_29 : decode cX11_near 29 = .ok (.isub, 1) := by decide +kernel
theorem dX11_near_30 : decode cX11_near 30 = .ok (.invokevirtual 194, 3) := by decide +kernel
theorem dX11_near_33 : decode cX11_near 33 = .ok (.getfield 204, 3) := by decide +kernel
theorem dX11_near_36 : decode cX11_near 36 = .ok (.ireturn, 1) := by decide +kernel
theorem dX11_near_37 : decode cX11_near 37 = .ok (.aload_n 0, 1) := by decide +kernel
theorem dX11_near_38 : decode cX11_near 38 = .ok (.invokevirtual 207, 3) := by decide +kernel
theorem dX11_near_41 : decode cX11_near 41 = .ok (.iload_n 1, 1) := by decide +kernel
theorem dX11_near_42 : decode cX11_near 42 = .ok (.ifCond .ne 11, 3) := by decide +kernel
theorem dX11_near_45 : decode cX11_near 45 = .ok (.aload_n 0, 1) := by decide +kernel
theorem dX11_near_46 : decode cX11_near 46 = .ok (.getfield 47, 3) := by decide +kernel
theorem dX11_near_49 : decode cX11_near 49 = .ok (.getfield 210, 3) := by decide +kernel
theorem dX11_near_52 : decode cX11_near 52 = .ok (.ireturn, 1) := by decide +kernel
theorem dX11_near_53 : decode cX11_near 53 = .ok (.iload_n 1, 1) := by decide +kernel
theorem dX11_near_54 : decode cX11_near 54 = .ok (.iconst 1, 1) := by decide +kernel
theorem dX11_near_55 : decode cX11_near 55 = .ok (.if_icmp .ne 13, 3) := by decide +kernel
theorem dX11_near_58 : decode cX11_near 58 = .ok (.aload_n 0, 1) := by decide +kernel
theorem dX11_near_59 : decode cX11_near 59 = .ok (.getfield 47, 3) := by decide +kernel
theorem dX11_near_62 : decode cX11_near 62 = .ok (.getfield 213, 3) := by decide +kernel
theorem dX11_near_65 : decode cX11_near 65 = .ok (.goto 10, 3) := by decide +kernel
theorem dX11_near_68 : decode cX11_near 68 = .ok (.aload_n 0, 1) := by decide +kernel
theorem dX11_near_69 : decode cX11_near 69 = .ok (.getfield 47, 3) := by decide +kernel
theorem dX11_near_72 : decode cX11_near 72 = .ok (.getfield 216, 3) := by decide +kernel
theorem dX11_near_75 : decode cX11_near 75 = .ok (.ireturn, 1) := by decide +kernel
set_option maxRecDepth 20000 in
theorem ggX11_sure_X11_isPiece : GoodIn wsX11_sure wsX11_isPiece := goodIn_r _ [6, 7, 8, 9, 10, 5, 11, 12, 13, 14, 15, 16, 17, 18, 19, 20, 21, 22, 23, 24, 25, 26, 27, 28, 29, 30, 31, 32, 33, 34, 35, 36, 37, 38, 39, 40, 41, 42, 43, 44, 45, 46, 47, 48, 49, 50, 51, 52, 53, 54, 55, 56, 57, 58, 59, 60, 61, 62, 63, 64, 65, 66, 67, 68, 69, 70, 71, 72, 73, 74, 75, 76, 77, 78, 79, 80, 81, 82, 83, 84, 85, 86, 202, 203, 204, 205, 206, 207, 208, 209, 210, 211, 212, 213, 214, 215, 216, 217, 218, 219, 220, 221, 222, 223, 224, 225, 226, 227, 228, 229, 230, 231, 232, 233, 234, 235, 236, 237, 238, 239, 240, 241, 242] (by decide +kernel) (by decide +kernel)
set_option maxRecDepth 20000 in
theorem gX11_sure_X11_isPiece : GoodIn wsX11_sure (wsV RX11 166 RX11 yX11_isPiece wsX11_isPiece) := goodIn_app (goodIn_of _ (by decide +kernel)) ggX11_sure_X11_isPiece
theorem dX11_sure_0 : decode cX11_sure 0 = .ok (.aload_n 0, 1) := by decide +kernel
theorem dX11_sure_1 : decode cX11_sure 1 = .ok (.iload_n 1, 1) := by decide +kernel
theorem dX11_sure_2 : decode cX11_sure 2 = .ok (.invokevirtual 166, 3) := by decide +kernel
theorem dX11_sure_5 : decode cX11_sure 5 = .ok (.ifCond .eq 16, 3) := by decide +kernel
theorem dX11_sure_21 : decode cX11_sure 21 = .ok (.iconst (-1), 1) := by decide +kernel
theorem dX11_sure_22 : decode cX11_sure 22 = .ok (.ireturn, 1) := by decide +kernel
set_option maxRecDepth 20000 in
theorem ggX11_middle_X11_isHeapNumber : GoodIn wsX11_middle wsX11_isHeapNumber := goodIn_r _ [5, 6, 7, 4, 8] (by decide +kernel) (by decide +kernel)
set_option maxRecDepth 20000 in
theorem gX11_middle_X11_isHeapNumber : GoodIn wsX11_middle (va_wsS RX11 222 yX11_isHeapNumber wsX11_isHeapNumber) := goodIn_app (goodIn_of _ (by decide +kernel)) ggX11_middle_X11_isHeapNumber
set_option maxRecDepth 20000 in
theorem ggX11_middle_X11_within : GoodIn wsX11_middle wsX11_within := goodIn_r _ [8] (by decide +kernel) (by decide +kernel)
set_option maxRecDepth 20000 in
theorem gX11_middle_X11_within : GoodIn wsX11_middle (va_wsS RX11 104 yX11_within wsX11_within) := goodIn_app (goodIn_of _ (by decide +kernel)) ggX11_middle_X11_within
set_option maxRecDepth 20000 in
theorem ggX11_middle_X11_refusedHeap : GoodIn wsX11_middle wsX11_refusedHeap := goodIn_r _ [12, 1, 13, 14, 15, 4, 16, 17, 18, 19, 20, 21, 22, 23, 24, 25, 26, 27, 28, 29, 30, 31, 32, 33, 34, 35, 36, 37, 38, 39, 40, 41, 42, 43, 44, 45, 46, 47, 48, 49, 50, 51, 52, 53, 54, 55, 56, 57, 58, 59, 60, 61, 62, 63, 64, 65, 66, 67, 68, 69, 70, 71, 72, 73, 74, 75, 76, 77, 78, 79, 80, 81, 82, 83, 84, 85, 86, 87, 88, 89, 90, 91, 92, 93, 94, 95, 96, 97, 98, 99, 100, 101, 102, 103, 104, 105, 106, 107, 108, 109, 110, 111, 112, 113, 114, 115, 116, 117, 118, 119, 120, 121, 122, 123, 124, 125, 126, 127, 128, 129, 130, 131, 132, 133, 134, 135, 136, 137, 138, 139, 140, 141, 142, 143, 144, 145, 146, 147, 148, 149, 150, 151, 152, 153, 154, 155, 156, 157, 158, 159, 160, 161, 162, 163, 164, 165, 166, 167, 168, 169, 170, 171, 172, 173, 174, 175, 176, 177, 178, 179, 180, 181, 182, 183, 184, 185, 186, 187, 188, 189, 190, 195, 196, 197, 198, 199, 200, 201, 202, 203, 204, 205, 206, 207, 208, 209, 210, 211, 212, 213, 214, 215, 216, 217, 218, 219, 220, 221, 222, 223, 224, 225, 226, 227, 228, 229, 230, 231, 232, 233, 234, 235, 236, 237, 238, 239, 240, 241, 242, 243, 244, 245, 246, 247, 248, 249, 250, 251, 252, 253, 254] (by decide +kernel) (by decide +kernel)
set_option maxRecDepth 20000 in
theorem gX11_middle_X11_refusedHeap : GoodIn wsX11_middle (wsV RX11 225 RX11 yX11_refusedHeap wsX11_refusedHeap) := goodIn_app (goodIn_of _ (by decide +kernel)) ggX11_middle_X11_refusedHeap
theorem dX11_middle_0 : decode cX11_middle 0 = .ok (.iload_n 1, 1) := by decide +kernel
theorem dX11_middle_1 : decode cX11_middle 1 = .ok (.invokestatic 222, 3) := by decide +kernel
theorem dX11_middle_4 : decode cX11_middle 4 = .ok (.ifCond .eq 12, 3) := by decide +kernel
theorem dX11_middle_7 : decode cX11_middle 7 = .ok (.iload_n 2, 1) := by decide +kernel
theorem dX11_middle_8 : decode cX11_middle 8 = .ok (.iconst 0, 1) := by decide +kernel
theorem dX11_middle_9 : decode cX11_middle 9 = .ok (.iconst 3, 1) := by decide +kernel
theorem dX11_middle_10 : decode cX11_middle 10 = .ok (.invokestatic 104, 3) := by decide +kernel
theorem dX11_middle_13 : decode cX11_middle 13 = .ok (.ifCond .ne 5, 3) := by decide +kernel
theorem dX11_middle_16 : decode cX11_middle 16 = .ok (.iconst (-1), 1) := by decide +kernel
theorem dX11_middle_17 : decode cX11_middle 17 = .ok (.ireturn, 1) := by decide +kernel
theorem dX11_middle_18 : decode cX11_middle 18 = .ok (.aload_n 0, 1) := by decide +kernel
theorem dX11_middle_19 : decode cX11_middle 19 = .ok (.iload_n 1, 1) := by decide +kernel
theorem dX11_middle_20 : decode cX11_middle 20 = .ok (.invokevirtual 225, 3) := by decide +kernel
theorem dX11_middle_23 : decode cX11_middle 23 = .ok (.istore_n 3, 1) := by decide +kernel
theorem dX11_middle_24 : decode cX11_middle 24 = .ok (.iload_n 3, 1) := by decide +kernel
theorem dX11_middle_25 : decode cX11_middle 25 = .ok (.ifCond .ge 7, 3) := by decide +kernel
theorem dX11_middle_28 : decode cX11_middle 28 = .ok (.iload_n 3, 1) := by decide +kernel
theorem dX11_middle_29 : decode cX11_middle 29 = .ok (.goto 15, 3) := by decide +kernel
theorem dX11_middle_44 : decode cX11_middle 44 = .ok (.ireturn, 1) := by decide +kernel
set_option maxRecDepth 20000 in
theorem ggX11_twice_X11_isPiece : GoodIn wsX11_twice wsX11_isPiece := goodIn_r _ [8, 2, 9, 10, 11, 7, 12, 13, 14, 15, 3, 16, 17, 18, 19, 20, 21, 22, 23, 24, 25, 26, 27, 28, 29, 30, 31, 32, 33, 34, 35, 36, 37, 38, 39, 40, 41, 42, 43, 44, 45, 46, 47, 48, 49, 50, 51, 52, 53, 54, 55, 56, 57, 58, 59, 60, 61, 62, 63, 64, 65, 66, 67, 68, 69, 70, 71, 72, 73, 74, 75, 76, 77, 78, 79, 80, 81, 82, 83, 84, 85, 86, 207, 208, 209, 210, 211, 212, 213, 214, 215, 216, 217, 218, 219, 220, 221, 222, 233, 234, 235, 236, 237, 238, 239, 240, 241, 242, 243, 244, 245, 246, 247, 248, 249, 250, 251, 252, 253, 254, 255, 256, 257] (by decide +kernel) (by decide +kernel)
set_option maxRecDepth 20000 in
theorem gX11_twice_X11_isPiece : GoodIn wsX11_twice (wsV RX11 166 RX11 yX11_isPiece wsX11_isPiece) := goodIn_app (goodIn_of _ (by decide +kernel)) ggX11_twice_X11_isPiece
theorem dX11_twice_0 : decode cX11_twice 0 = .ok (.aload_n 0, 1) := by decide +kernel
theorem dX11_twice_1 : decode cX11_twice 1 = .ok (.iload_n 1, 1) := by decide +kernel
theorem dX11_twice_2 : decode cX11_twice 2 = .ok (.invokevirtual 166, 3) := by decide +kernel
theorem dX11_twice_5 : decode cX11_twice 5 = .ok (.ifCond .eq 12, 3) := by decide +kernel
theorem dX11_twice_17 : decode cX11_twice 17 = .ok (.iconst (-1), 1) := by decide +kernel
theorem dX11_twice_18 : decode cX11_twice 18 = .ok (.ireturn, 1) := by decide +kernel
set_option maxRecDepth 20000 in
theorem ggX11_keep_X11_isHeapNumber : GoodIn wsX11_keep wsX11_isHeapNumber := goodIn_r _ [6, 7, 8, 5, 9] (by decide +kernel) (by decide +kernel)
set_option maxRecDepth 20000 in
theorem gX11_keep_X11_isHeapNumber : GoodIn wsX11_keep (va_wsS RX11 222 yX11_isHeapNumber wsX11_isHeapNumber) := goodIn_app (goodIn_of _ (by decide +kernel)) ggX11_keep_X11_isHeapNumber
set_option maxRecDepth 20000 in
theorem ggX11_keep_X11_within : GoodIn wsX11_keep wsX11_within := goodIn_r _ [9] (by decide +kernel) (by decide +kernel)
set_option maxRecDepth 20000 in
theorem gX11_keep_X11_within : GoodIn wsX11_keep (va_wsS RX11 104 yX11_within wsX11_within) := goodIn_app (goodIn_of _ (by decide +kernel)) ggX11_keep_X11_within
set_option maxRecDepth 20000 in
theorem ggX11_keep_X11_refusedHeap : GoodIn wsX11_keep wsX11_refusedHeap := goodIn_r _ [13, 2, 14, 15, 16, 5, 17, 18, 19, 20, 21, 22, 23, 24, 25, 26, 27, 28, 29, 30, 31, 32, 33, 34, 35, 36, 37, 38, 39, 40, 41, 42, 43, 44, 45, 46, 47, 48, 49, 50, 51, 52, 53, 54, 55, 56, 57, 58, 59, 60, 61, 62, 63, 64, 65, 66, 67, 68, 69, 70, 71, 72, 73, 74, 75, 76, 77, 78, 79, 80, 81, 82, 83, 84, 85, 86, 87, 88, 89, 90, 91, 92, 93, 94, 95, 96, 97, 98, 99, 100, 101, 102, 103, 104, 105, 106, 107, 108, 109, 110, 111, 112, 113, 114, 115, 116, 117, 118, 119, 120, 121, 122, 123, 124, 125, 126, 127, 128, 129, 130, 131, 132, 133, 134, 135, 136, 137, 138, 139, 140, 141, 142, 143, 144, 145, 146, 147, 148, 149, 150, 151, 152, 153, 154, 155, 156, 157, 158, 159, 160, 161, 162, 163, 164, 165, 166, 167, 168, 169, 170, 171, 172, 173, 174, 175, 176, 177, 178, 179, 180, 181, 182, 183, 184, 185, 186, 187, 188, 189, 190, 191, 204, 205, 206, 207, 208, 209, 210, 211, 212, 213, 214, 215, 216, 217, 218, 219, 220, 221, 222, 223, 224, 225, 226, 227, 228, 229, 230, 231, 232, 233, 234, 235, 236, 237, 238, 239, 240, 241, 242, 243, 244, 245, 246, 247, 248, 249, 250, 251, 252, 253, 254, 255, 256, 257, 258, 259, 260, 261, 262, 263] (by decide +kernel) (by decide +kernel)
set_option maxRecDepth 20000 in
theorem gX11_keep_X11_refusedHeap : GoodIn wsX11_keep (wsV RX11 225 RX11 yX11_refusedHeap wsX11_refusedHeap) := goodIn_app (goodIn_of _ (by decide +kernel)) ggX11_keep_X11_refusedHeap
theorem dX11_keep_0 : decode cX11_keep 0 = .ok (.iload_n 1, 1) := by decide +kernel
theorem dX11_keep_1 : decode cX11_keep 1 = .ok (.invokestatic 222, 3) := by decide +kernel
theorem dX11_keep_4 : decode cX11_keep 4 = .ok (.ifCond .eq 13, 3) := by decide +kernel
theorem dX11_keep_7 : decode cX11_keep 7 = .ok (.iload_n 2, 1) := by decide +kernel
theorem dX11_keep_8 : decode cX11_keep 8 = .ok (.iconst 1, 1) := by decide +kernel
theorem dX11_keep_9 : decode cX11_keep 9 = .ok (.bipush 99, 2) := by decide +kernel
theorem dX11_keep_11 : decode cX11_keep 11 = .ok (.invokestatic 104, 3) := by decide +kernel
theorem dX11_keep_14 : decode cX11_keep 14 = .ok (.ifCond .ne 5, 3) := by decide +kernel
theorem dX11_keep_17 : decode cX11_keep 17 = .ok (.iconst (-1), 1) := by decide +kernel
theorem dX11_keep_18 : decode cX11_keep 18 = .ok (.ireturn, 1) := by decide +kernel
theorem dX11_keep_19 : decode cX11_keep 19 = .ok (.aload_n 0, 1) := by decide +kernel
theorem dX11_keep_20 : decode cX11_keep 20 = .ok (.iload_n 1, 1) := by decide +kernel
theorem dX11_keep_21 : decode cX11_keep 21 = .ok (.invokevirtual 225, 3) := by decide +kernel
theorem dX11_keep_24 : decode cX11_keep 24 = .ok (.istore_n 3, 1) := by decide +kernel
theorem dX11_keep_25 : decode cX11_keep 25 = .ok (.iload_n 3, 1) := by decide +kernel
theorem dX11_keep_26 : decode cX11_keep 26 = .ok (.ifCond .ge 5, 3) := by decide +kernel
theorem dX11_keep_29 : decode cX11_keep 29 = .ok (.iload_n 3, 1) := by decide +kernel
theorem dX11_keep_30 : decode cX11_keep 30 = .ok (.ireturn, 1) := by decide +kernel
set_option maxRecDepth 20000 in
theorem ggX11_forget_X5_has : GoodIn wsX11_forget wsX5_has := goodIn_r _ [6, 7, 31, 32, 33, 34] (by decide +kernel) (by decide +kernel)
set_option maxRecDepth 20000 in
theorem gX11_forget_X5_has : GoodIn wsX11_forget (wsV RX11 240 RX5 yX5_has wsX5_has) := goodIn_app (goodIn_of _ (by decide +kernel)) ggX11_forget_X5_has
theorem dX11_forget_0 : decode cX11_forget 0 = .ok (.aload_n 0, 1) := by decide +kernel
theorem dX11_forget_1 : decode cX11_forget 1 = .ok (.getfield 61, 3) := by decide +kernel
theorem dX11_forget_4 : decode cX11_forget 4 = .ok (.iload_n 1, 1) := by decide +kernel
theorem dX11_forget_5 : decode cX11_forget 5 = .ok (.invokevirtual 240, 3) := by decide +kernel
theorem dX11_forget_8 : decode cX11_forget 8 = .ok (.ifCond .eq 14, 3) := by decide +kernel
theorem dX11_forget_22 : decode cX11_forget 22 = .ok (.iconst (-1), 1) := by decide +kernel
theorem dX11_forget_23 : decode cX11_forget 23 = .ok (.ireturn, 1) := by decide +kernel
set_option maxRecDepth 20000 in
theorem ggX11_back_X11_isHeapNumber : GoodIn wsX11_back wsX11_isHeapNumber := goodIn_r _ [7, 8, 9, 6, 10] (by decide +kernel) (by decide +kernel)
set_option maxRecDepth 20000 in
theorem gX11_back_X11_isHeapNumber : GoodIn wsX11_back (va_wsS RX11 222 yX11_isHeapNumber wsX11_isHeapNumber) := goodIn_app (goodIn_of _ (by decide +kernel)) ggX11_back_X11_isHeapNumber
set_option maxRecDepth 20000 in
theorem ggX11_back_X11_within : GoodIn wsX11_back wsX11_within := goodIn_r _ [10] (by decide +kernel) (by decide +kernel)
set_option maxRecDepth 20000 in
theorem gX11_back_X11_within : GoodIn wsX11_back (va_wsS RX11 104 yX11_within wsX11_within) := goodIn_app (goodIn_of _ (by decide +kernel)) ggX11_back_X11_within
set_option maxRecDepth 20000 in
theorem ggX11_back_X11_refusedHeap : GoodIn wsX11_back wsX11_refusedHeap := goodIn_r _ [14, 2, 15, 16, 17, 6, 18, 19, 20, 21, 3, 22, 23, 24, 25, 26, 27, 28, 29, 30, 31, 32, 33, 34, 35, 36, 37, 38, 39, 40, 41, 42, 43, 44, 45, 46, 47, 48, 49, 50, 51, 52, 53, 54, 55, 56, 57, 58, 59, 60, 61, 62, 63, 64, 65, 66, 67, 68, 69, 70, 71, 72, 73, 74, 75, 76, 77, 78, 79, 80, 81, 82, 83, 84, 85, 86, 87, 88, 89, 90, 91, 92, 93, 94, 95, 96, 97, 98, 99, 100, 101, 102, 103, 104, 105, 106, 107, 108, 109, 110, 111, 112, 113, 114, 115, 116, 117, 118, 119, 120, 121, 122, 123, 124, 125, 126, 127, 128, 129, 130, 131, 132, 133, 134, 135, 136, 137, 138, 139, 140, 141, 142, 143, 144, 145, 146, 147, 148, 149, 150, 151, 152, 153, 154, 155, 156, 157, 158, 159, 160, 161, 162, 163, 164, 165, 166, 167, 168, 169, 170, 171, 172, 173, 174, 175, 176, 177, 178, 179, 180, 181, 182, 183, 184, 185, 186, 187, 188, 189, 190, 191, 199, 200, 201, 202, 203, 204, 205, 206, 207, 208, 209, 210, 211, 212, 213, 214, 215, 216, 217, 218, 219, 220, 221, 222, 223, 224, 229, 230, 231, 232, 233, 234, 235, 236, 237, 238, 239, 240, 241, 242, 243, 244, 245, 246, 247, 248, 249, 250, 251, 252, 253, 254, 255, 256, 257, 258, 259, 260, 261, 262] (by decide +kernel) (by decide +kernel)
set_option maxRecDepth 20000 in
theorem gX11_back_X11_refusedHeap : GoodIn wsX11_back (wsV RX11 225 RX11 yX11_refusedHeap wsX11_refusedHeap) := goodIn_app (goodIn_of _ (by decide +kernel)) ggX11_back_X11_refusedHeap
theorem dX11_back_0 : decode cX11_back 0 = .ok (.iload_n 1, 1) := by decide +kernel
theorem dX11_back_1 : decode cX11_back 1 = .ok (.invokestatic 222, 3) := by decide +kernel
theorem dX11_back_4 : decode cX11_back 4 = .ok (.ifCond .eq 12, 3) := by decide +kernel
theorem dX11_back_7 : decode cX11_back 7 = .ok (.iload_n 2, 1) := by decide +kernel
theorem dX11_back_8 : decode cX11_back 8 = .ok (.iconst 0, 1) := by decide +kernel
theorem dX11_back_9 : decode cX11_back 9 = .ok (.iconst 1, 1) := by decide +kernel
theorem dX11_back_10 : decode cX11_back 10 = .ok (.invokestatic 104, 3) := by decide +kernel
theorem dX11_back_13 : decode cX11_back 13 = .ok (.ifCond .ne 5, 3) := by decide +kernel
theorem dX11_back_16 : decode cX11_back 16 = .ok (.iconst (-1), 1) := by decide +kernel
theorem dX11_back_17 : decode cX11_back 17 = .ok (.ireturn, 1) := by decide +kernel
theorem dX11_back_18 : decode cX11_back 18 = .ok (.aload_n 0, 1) := by decide +kernel
theorem dX11_back_19 : decode cX11_back 19 = .ok (.iload_n 1, 1) := by decide +kernel
theorem dX11_back_20 : decode cX11_back 20 = .ok (.invokevirtual 225, 3) := by decide +kernel
theorem dX11_back_23 : decode cX11_back 23 = .ok (.istore_n 3, 1) := by decide +kernel
theorem dX11_back_24 : decode cX11_back 24 = .ok (.iload_n 3, 1) := by decide +kernel
theorem dX11_back_25 : decode cX11_back 25 = .ok (.ifCond .ge 5, 3) := by decide +kernel
theorem dX11_back_28 : decode cX11_back 28 = .ok (.iload_n 3, 1) := by decide +kernel
theorem dX11_back_29 : decode cX11_back 29 = .ok (.ireturn, 1) := by decide +kernel
set_option maxRecDepth 20000 in
theorem ggX11_odds_X11_isHeapNumber : GoodIn wsX11_odds wsX11_isHeapNumber := goodIn_r _ [7, 8, 9, 6, 10] (by decide +kernel) (by decide +kernel)
set_option maxRecDepth 20000 in
theorem gX11_odds_X11_isHeapNumber : GoodIn wsX11_odds (va_wsS RX11 222 yX11_isHeapNumber wsX11_isHeapNumber) := goodIn_app (goodIn_of _ (by decide +kernel)) ggX11_odds_X11_isHeapNumber
set_option maxRecDepth 20000 in
theorem ggX11_odds_X5_has : GoodIn wsX11_odds wsX5_has := goodIn_r _ [15, 16, 258, 259, 260, 261] (by decide +kernel) (by decide +kernel)
set_option maxRecDepth 20000 in
theorem gX11_odds_X5_has : GoodIn wsX11_odds (wsV RX11 240 RX5 yX5_has wsX5_has) := goodIn_app (goodIn_of _ (by decide +kernel)) ggX11_odds_X5_has
theorem dX11_odds_0 : decode cX11_odds 0 = .ok (.iload_n 1, 1) := by decide +kernel
theorem dX11_odds_1 : decode cX11_odds 1 = .ok (.invokestatic 222, 3) := by decide +kernel
theorem dX11_odds_4 : decode cX11_odds 4 = .ok (.ifCond .eq 23, 3) := by decide +kernel
theorem dX11_odds_7 : decode cX11_odds 7 = .ok (.aload_n 0, 1) := by decide +kernel
theorem dX11_odds_8 : decode cX11_odds 8 = .ok (.getfield 61, 3) := by decide +kernel
theorem dX11_odds_11 : decode cX11_odds 11 = .ok (.iload_n 2, 1) := by decide +kernel
theorem dX11_odds_12 : decode cX11_odds 12 = .ok (.invokevirtual 240, 3) := by decide +kernel
theorem dX11_odds_15 : decode cX11_odds 15 = .ok (.ifCond .eq 12, 3) := by decide +kernel
theorem dX11_odds_27 : decode cX11_odds 27 = .ok (.iconst (-1), 1) := by decide +kernel
theorem dX11_odds_28 : decode cX11_odds 28 = .ok (.ireturn, 1) := by decide +kernel
set_option maxRecDepth 20000 in
theorem ggX11_show_X11_heapNow : GoodIn wsX11_show wsX11_heapNow := goodIn_r _ [8, 9, 10, 11, 12, 13, 1, 14, 15, 16, 17, 18, 7, 19, 20, 21, 22, 23, 24, 25, 26, 27, 28, 29, 30, 31, 32, 33, 34, 35, 36, 37, 38, 39, 40, 41, 42, 43, 44, 45, 46, 47, 48, 49, 50, 51, 52, 53, 54, 55, 56, 57, 58, 59, 60, 61, 62, 63, 64, 65, 66, 67, 68, 69, 70, 71, 72, 73, 74, 75, 76, 77, 78, 79, 80, 81, 82, 83, 84, 85, 86, 87, 88, 89, 90, 91, 92, 93, 94, 95, 96, 97, 98, 99, 100, 101, 102, 103, 104, 105, 106, 107, 108, 109, 110, 111, 112, 113, 114, 115, 116, 117, 118, 119, 120, 121, 122, 123, 124, 125, 126, 127, 128, 129, 130, 131, 132, 133, 134, 135, 136, 137, 138, 139, 140, 141, 142, 143, 144, 145, 146, 147, 148, 149, 150, 151, 152, 153, 154, 155, 156, 157, 158, 159, 160, 161, 162, 163, 164, 165, 166, 167, 168, 169, 170, 171, 172, 173, 174, 175, 176, 177, 178, 179, 180, 181, 182, 190, 191, 192, 193, 194, 195, 196, 197, 198, 199, 200, 201, 202, 203, 204, 205, 211, 212, 213, 214, 215, 216, 217, 218, 219, 220, 221, 222, 223, 224, 225, 226, 227, 228, 229, 230, 231, 232, 233, 234, 235, 236, 237, 206, 207, 208, 209, 210, 238, 239, 240, 241, 242, 243, 244, 245, 246, 247, 248, 249] (by decide +kernel) (by decide +kernel)
set_option maxRecDepth 20000 in
theorem gX11_show_X11_heapNow : GoodIn wsX11_show (wsV RX11 190 RX11 yX11_heapNow wsX11_heapNow) := goodIn_app (goodIn_of _ (by decide +kernel)) ggX11_show_X11_heapNow
theorem dX11_show_0 : decode cX11_show 0 = .ok (.aload_n 0, 1) := by decide +kernel
theorem dX11_show_1 : decode cX11_show 1 = .ok (.invokevirtual 190, 3) := by decide +kernel
theorem dX11_show_4 : decode cX11_show 4 = .ok (.ifCond .ne 6, 3) := by decide +kernel
theorem dX11_show_10 : decode cX11_show 10 = .ok (.iconst 0, 1) := by decide +kernel
theorem dX11_show_11 : decode cX11_show 11 = .ok (.istore_n 1, 1) := by decide +kernel
theorem dX11_show_12 : decode cX11_show 12 = .ok (.iload_n 1, 1) := by decide +kernel
theorem dX11_show_13 : decode cX11_show 13 = .ok (.aload_n 0, 1) := by decide +kernel
theorem dX11_show_14 : decode cX11_show 14 = .ok (.getfield 19, 3) := by decide +kernel
theorem dX11_show_17 : decode cX11_show 17 = .ok (.getfield 130, 3) := by decide +kernel
theorem dX11_show_20 : decode cX11_show 20 = .ok (.if_icmp .ge 20, 3) := by decide +kernel
theorem dX11_show_40 : decode cX11_show 40 = .ok (.aload_n 0, 1) := by decide +kernel
theorem dX11_show_41 : decode cX11_show 41 = .ok (.aload_n 0, 1) := by decide +kernel
theorem dX11_show_42 : decode cX11_show 42 = .ok (.getfield 19, 3) := by decide +kernel
theorem dX11_show_45 : decode cX11_show 45 = .ok (.getfield 130, 3) := by decide +kernel
theorem dX11_show_48 : decode cX11_show 48 = .ok (.putfield 90, 3) := by decide +kernel
theorem dX11_show_51 : decode cX11_show 51 = .ok (.aload_n 0, 1) := by decide +kernel
theorem dX11_show_52 : decode cX11_show 52 = .ok (.getfield 90, 3) := by decide +kernel
theorem dX11_show_55 : decode cX11_show 55 = .ok (.ireturn, 1) := by decide +kernel
theorem dX11_otherwise_0 : decode cX11_otherwise 0 = .ok (.aload_n 0, 1) := by decide +kernel
theorem dX11_otherwise_1 : decode cX11_otherwise 1 = .ok (.getfield 90, 3) := by decide +kernel
theorem dX11_otherwise_4 : decode cX11_otherwise 4 = .ok (.iconst (-1), 1) := by decide +kernel
theorem dX11_otherwise_5 : decode cX11_otherwise 5 = .ok (.if_icmp .eq 10, 3) := by decide +kernel
theorem dX11_otherwise_15 : decode cX11_otherwise 15 = .ok (.bipush (-2), 2) := by decide +kernel
theorem dX11_otherwise_17 : decode cX11_otherwise 17 = .ok (.ireturn, 1) := by decide +kernel
set_option maxRecDepth 20000 in
theorem ggX11_word_X11_areRows : GoodIn wsX11_word wsX11_areRows := goodIn_r _ [6, 7, 16, 17, 18, 19, 20, 21, 22, 23, 24, 25, 26, 27, 28, 29, 30, 31, 32, 33, 34, 35, 36] (by decide +kernel) (by decide +kernel)
set_option maxRecDepth 20000 in
theorem gX11_word_X11_areRows : GoodIn wsX11_word (wsV RX11 140 RX11 yX11_areRows wsX11_areRows) := goodIn_app (goodIn_of _ (by decide +kernel)) ggX11_word_X11_areRows
theorem dX11_word_0 : decode cX11_word 0 = .ok (.aload_n 0, 1) := by decide +kernel
theorem dX11_word_1 : decode cX11_word 1 = .ok (.iload_n 1, 1) := by decide +kernel
theorem dX11_word_2 : decode cX11_word 2 = .ok (.iload_n 2, 1) := by decide +kernel
theorem dX11_word_3 : decode cX11_word 3 = .ok (.invokevirtual 140, 3) := by decide +kernel
theorem dX11_word_6 : decode cX11_word 6 = .ok (.ifCond .eq 15, 3) := by decide +kernel
theorem dX11_word_21 : decode cX11_word 21 = .ok (.iconst (-1), 1) := by decide +kernel
theorem dX11_word_22 : decode cX11_word 22 = .ok (.ireturn, 1) := by decide +kernel
set_option maxRecDepth 20000 in
theorem ggX11_hung_X11_within : GoodIn wsX11_hung wsX11_within := goodIn_r _ [6] (by decide +kernel) (by decide +kernel)
set_option maxRecDepth 20000 in
theorem gX11_hung_X11_within : GoodIn wsX11_hung (va_wsS RX11 104 yX11_within wsX11_within) := goodIn_app (goodIn_of _ (by decide +kernel)) ggX11_hung_X11_within
theorem dX11_hung_0 : decode cX11_hung 0 = .ok (.iload_n 1, 1) := by decide +kernel
theorem dX11_hung_1 : decode cX11_hung 1 = .ok (.iconst 0, 1) := by decide +kernel
theorem dX11_hung_2 : decode cX11_hung 2 = .ok (.aload_n 0, 1) := by decide +kernel
theorem dX11_hung_3 : decode cX11_hung 3 = .ok (.getfield 68, 3) := by decide +kernel
theorem dX11_hung_6 : decode cX11_hung 6 = .ok (.getfield 148, 3) := by decide +kernel
theorem dX11_hung_9 : decode cX11_hung 9 = .ok (.iconst 1, 1) := by decide +kernel
theorem dX11_hung_10 : decode cX11_hung 10 = .ok (.isub, 1) := by decide +kernel
theorem dX11_hung_11 : decode cX11_hung 11 = .ok (.invokestatic 104, 3) := by decide +kernel
theorem dX11_hung_14 : decode cX11_hung 14 = .ok (.ifCond .eq 12, 3) := by decide +kernel
theorem dX11_hung_26 : decode cX11_hung 26 = .ok (.iconst (-1), 1) := by decide +kernel
theorem dX11_hung_27 : decode cX11_hung 27 = .ok (.ireturn, 1) := by decide +kernel
set_option maxRecDepth 20000 in
theorem ggX11_truth_X11_areRows : GoodIn wsX11_truth wsX11_areRows := goodIn_r _ [6, 1, 21, 22, 23, 24, 25, 26, 27, 28, 29, 30, 31, 32, 33, 34, 35, 36, 37, 38, 39, 40, 41] (by decide +kernel) (by decide +kernel)
set_option maxRecDepth 20000 in
theorem gX11_truth_X11_areRows : GoodIn wsX11_truth (wsV RX11 140 RX11 yX11_areRows wsX11_areRows) := goodIn_app (goodIn_of _ (by decide +kernel)) ggX11_truth_X11_areRows
theorem dX11_truth_0 : decode cX11_truth 0 = .ok (.aload_n 0, 1) := by decide +kernel
theorem dX11_truth_1 : decode cX11_truth 1 = .ok (.iload_n 1, 1) := by decide +kernel
theorem dX11_truth_2 : decode cX11_truth 2 = .ok (.iload_n 2, 1) := by decide +kernel
theorem dX11_truth_3 : decode cX11_truth 3 = .ok (.invokevirtual 140, 3) := by decide +kernel
theorem dX11_truth_6 : decode cX11_truth 6 = .ok (.ifCond .eq 25, 3) := by decide +kernel
theorem dX11_truth_31 : decode cX11_truth 31 = .ok (.iconst (-1), 1) := by decide +kernel
theorem dX11_truth_32 : decode cX11_truth 32 = .ok (.ireturn, 1) := by decide +kernel
set_option maxRecDepth 20000 in
theorem ggX11_errors_X11_within : GoodIn wsX11_errors wsX11_within := goodIn_r _ [8] (by decide +kernel) (by decide +kernel)
set_option maxRecDepth 20000 in
theorem gX11_errors_X11_within : GoodIn wsX11_errors (va_wsS RX11 104 yX11_within wsX11_within) := goodIn_app (goodIn_of _ (by decide +kernel)) ggX11_errors_X11_within
set_option maxRecDepth 20000 in
theorem ggX11_errors_X11_cutNow : GoodIn wsX11_errors wsX11_cutNow := goodIn_r _ [12, 13, 3, 2, 14, 15, 16, 17, 18, 19, 20, 21, 22, 23, 24, 25, 26, 27, 28, 29, 30, 31, 32, 33, 34, 35, 36, 37, 38, 39, 40, 41, 42, 43, 44, 45, 46, 47, 48, 49, 50, 51, 52, 53, 54, 55, 56, 57, 58, 59, 60, 61, 62, 63, 64, 65, 66, 67, 68, 69, 70, 71, 72, 73, 74, 75, 76, 77, 78, 79, 80, 81, 82, 83, 210, 211, 212, 213, 214, 215, 216, 217, 218, 219, 220, 221, 222, 223, 224, 225, 236, 237, 238, 239, 240, 241, 242, 243, 244, 245, 246, 247, 248, 249, 250, 251, 252, 253, 254, 255, 256, 257, 258, 259, 260] (by decide +kernel) (by decide +kernel)
set_option maxRecDepth 20000 in
theorem gX11_errors_X11_cutNow : GoodIn wsX11_errors (wsV RX11 151 RX11 yX11_cutNow wsX11_cutNow) := goodIn_app (goodIn_of _ (by decide +kernel)) ggX11_errors_X11_cutNow
set_option maxRecDepth 20000 in
theorem ggX11_errors_X9_missed : GoodIn wsX11_errors wsX9_missed := goodIn_r _ [88, 253, 254, 255, 256, 257, 241, 242, 243, 244, 245, 246, 247, 248, 249, 250, 251, 252] (by decide +kernel) (by decide +kernel)
set_option maxRecDepth 20000 in
theorem gX11_errors_X9_missed : GoodIn wsX11_errors (wsV RX11 274 RX9 yX9_missed wsX9_missed) := goodIn_app (goodIn_of _ (by decide +kernel)) ggX11_errors_X9_missed
set_option maxRecDepth 20000 in
theorem ggX11_errors_X9_madeUp : GoodIn wsX11_errors wsX9_madeUp := goodIn_r _ [92, 253, 254, 255, 256, 257, 241, 242, 243, 244, 245, 246, 247, 248, 249, 250, 251, 252] (by decide +kernel) (by decide +kernel)
set_option maxRecDepth 20000 in
theorem gX11_errors_X9_madeUp : GoodIn wsX11_errors (wsV RX11 278 RX9 yX9_madeUp wsX9_madeUp) := goodIn_app (goodIn_of _ (by decide +kernel)) ggX11_errors_X9_madeUp
set_option maxRecDepth 20000 in
theorem ggX11_errors_X11_heapNow : GoodIn wsX11_errors wsX11_heapNow := goodIn_r _ [96, 3, 97, 98, 15, 4, 2, 14, 99, 9, 10, 11, 7, 12, 13, 16, 17, 18, 19, 20, 21, 22, 23, 24, 25, 26, 27, 28, 29, 30, 31, 32, 33, 34, 35, 36, 37, 38, 39, 40, 41, 42, 43, 44, 45, 46, 47, 48, 49, 50, 51, 52, 53, 54, 55, 56, 57, 58, 59, 60, 61, 62, 63, 64, 65, 66, 67, 68, 69, 70, 71, 72, 73, 74, 75, 76, 77, 78, 79, 80, 81, 82, 83, 100, 101, 102, 103, 104, 105, 106, 107, 108, 109, 110, 111, 112, 113, 114, 115, 116, 117, 118, 119, 120, 121, 122, 123, 124, 125, 126, 127, 128, 129, 130, 131, 132, 133, 134, 135, 136, 137, 138, 139, 140, 141, 142, 143, 144, 145, 146, 147, 148, 149, 150, 151, 152, 153, 154, 155, 156, 157, 158, 159, 160, 161, 162, 163, 164, 165, 166, 167, 168, 169, 170, 171, 172, 173, 174, 175, 176, 177, 178, 179, 180, 181, 182, 183, 184, 185, 186, 187, 188, 189, 190, 191, 192, 193, 210, 211, 212, 213, 214, 215, 216, 217, 218, 219, 220, 221, 222, 223, 224, 225, 241, 242, 243, 244, 245, 246, 247, 248, 249, 250, 251, 252, 226, 227, 228, 229, 230, 231, 232, 233, 234, 235, 236, 237, 238, 239, 240, 253, 254, 255, 256, 257, 258, 259, 260, 261, 262, 263, 264, 265, 266, 267, 268, 269] (by decide +kernel) (by decide +kernel)
set_option maxRecDepth 20000 in
theorem gX11_errors_X11_heapNow : GoodIn wsX11_errors (wsV RX11 190 RX11 yX11_heapNow wsX11_heapNow) := goodIn_app (goodIn_of _ (by decide +kernel)) ggX11_errors_X11_heapNow
set_option maxRecDepth 20000 in
theorem ggX11_errors_X9_wrong : GoodIn wsX11_errors wsX9_wrong := goodIn_r _ [197, 198, 199, 200, 201, 202, 87, 203, 204, 34, 35, 36, 205, 206, 207, 208, 209, 64, 65, 66, 270, 271, 265, 266, 267, 268, 269, 253, 254, 255, 256, 257, 241, 242, 243, 244, 245, 246, 247, 248, 249, 250, 251, 252] (by decide +kernel) (by decide +kernel)
set_option maxRecDepth 20000 in
theorem gX11_errors_X9_wrong : GoodIn wsX11_errors (wsV RX11 281 RX9 yX9_wrong wsX9_wrong) := goodIn_app (goodIn_of _ (by decide +kernel)) ggX11_errors_X9_wrong
theorem dX11_errors_0 : decode cX11_errors 0 = .ok (.iload_n 1, 1) := by decide +kernel
theorem dX11_errors_1 : decode cX11_errors 1 = .ok (.iconst 0, 1) := by decide +kernel
theorem dX11_errors_2 : decode cX11_errors 2 = .ok (.iconst 2, 1) := by decide +kernel
theorem dX11_errors_3 : decode cX11_errors 3 = .ok (.invokestatic 104, 3) := by decide +kernel
theorem dX11_errors_6 : decode cX11_errors 6 = .ok (.ifCond .ne 5, 3) := by decide +kernel
theorem dX11_errors_9 : decode cX11_errors 9 = .ok (.iconst (-1), 1) := by decide +kernel
theorem dX11_errors_10 : decode cX11_errors 10 = .ok (.ireturn, 1) := by decide +kernel
theorem dX11_errors_11 : decode cX11_errors 11 = .ok (.aload_n 0, 1) := by decide +kernel
theorem dX11_errors_12 : decode cX11_errors 12 = .ok (.invokevirtual 151, 3) := by decide +kernel
theorem dX11_errors_15 : decode cX11_errors 15 = .ok (.iload_n 1, 1) := by decide +kernel
theorem dX11_errors_16 : decode cX11_errors 16 = .ok (.ifCond .ne 19, 3) := by decide +kernel
theorem dX11_errors_19 : decode cX11_errors 19 = .ok (.aload_n 0, 1) := by decide +kernel
theorem dX11_errors_20 : decode cX11_errors 20 = .ok (.getfield 75, 3) := by decide +kernel
theorem dX11_errors_23 : decode cX11_errors 23 = .ok (.aload_n 0, 1) := by decide +kernel
theorem dX11_errors_24 : decode cX11_errors 24 = .ok (.getfield 19, 3) := by decide +kernel
theorem dX11_errors_27 : decode cX11_errors 27 = .ok (.aload_n 0, 1) := by decide +kernel
theorem dX11_errors_28 : decode cX11_errors 28 = .ok (.getfield 33, 3) := by decide +kernel
theorem dX11_errors_31 : decode cX11_errors 31 = .ok (.invokevirtual 274, 3) := by decide +kernel
theorem dX11_errors_34 : decode cX11_errors 34 = .ok (.ireturn, 1) := by decide +kernel
theorem dX11_errors_35 : decode cX11_errors 35 = .ok (.iload_n 1, 1) := by decide +kernel
theorem dX11_errors_36 : decode cX11_errors 36 = .ok (.iconst 1, 1) := by decide +kernel
theorem dX11_errors_37 : decode cX11_errors 37 = .ok (.if_icmp .ne 19, 3) := by decide +kernel
theorem dX11_errors_40 : decode cX11_errors 40 = .ok (.aload_n 0, 1) := by decide +kernel
theorem dX11_errors_41 : decode cX11_errors 41 = .ok (.getfield 75, 3) := by decide +kernel
theorem dX11_errors_44 : decode cX11_errors 44 = .ok (.aload_n 0, 1) := by decide +kernel
theorem dX11_errors_45 : decode cX11_errors 45 = .ok (.getfield 19, 3) := by decide +kernel
theorem dX11_errors_48 : decode cX11_errors 48 = .ok (.aload_n 0, 1) := by decide +kernel
theorem dX11_errors_49 : decode cX11_errors 49 = .ok (.getfield 33, 3) := by decide +kernel
theorem dX11_errors_52 : decode cX11_errors 52 = .ok (.invokevirtual 278, 3) := by decide +kernel
theorem dX11_errors_55 : decode cX11_errors 55 = .ok (.ireturn, 1) := by decide +kernel
theorem dX11_errors_56 : decode cX11_errors 56 = .ok (.aload_n 0, 1) := by decide +kernel
theorem dX11_errors_57 : decode cX11_errors 57 = .ok (.invokevirtual 190, 3) := by decide +kernel
theorem dX11_errors_60 : decode cX11_errors 60 = .ok (.ifCond .eq 28, 3) := by decide +kernel
theorem dX11_errors_63 : decode cX11_errors 63 = .ok (.aload_n 0, 1) := by decide +kernel
theorem dX11_errors_64 : decode cX11_errors 64 = .ok (.getfield 75, 3) := by decide +kernel
theorem dX11_errors_67 : decode cX11_errors 67 = .ok (.aload_n 0, 1) := by decide +kernel
theorem dX11_errors_68 : decode cX11_errors 68 = .ok (.getfield 19, 3) := by decide +kernel
theorem dX11_errors_71 : decode cX11_errors 71 = .ok (.aload_n 0, 1) := by decide +kernel
theorem dX11_errors_72 : decode cX11_errors 72 = .ok (.getfield 33, 3) := by decide +kernel
theorem dX11_errors_75 : decode cX11_errors 75 = .ok (.aload_n 0, 1) := by decide +kernel
theorem dX11_errors_76 : decode cX11_errors 76 = .ok (.getfield 47, 3) := by decide +kernel
theorem dX11_errors_79 : decode cX11_errors 79 = .ok (.getfield 228, 3) := by decide +kernel
theorem dX11_errors_82 : decode cX11_errors 82 = .ok (.invokevirtual 281, 3) := by decide +kernel
theorem dX11_errors_85 : decode cX11_errors 85 = .ok (.goto 5, 3) := by decide +kernel
theorem dX11_errors_90 : decode cX11_errors 90 = .ok (.ireturn, 1) := by decide +kernel
set_option maxRecDepth 20000 in
theorem ggX11_weight_X11_within : GoodIn wsX11_weight wsX11_within := goodIn_r _ [7] (by decide +kernel) (by decide +kernel)
set_option maxRecDepth 20000 in
theorem gX11_weight_X11_within : GoodIn wsX11_weight (va_wsS RX11 104 yX11_within wsX11_within) := goodIn_app (goodIn_of _ (by decide +kernel)) ggX11_weight_X11_within
set_option maxRecDepth 20000 in
theorem ggX11_weight_X11_isPiece : GoodIn wsX11_weight wsX11_isPiece := goodIn_r _ [11, 2, 12, 13, 14, 6, 15, 16, 17, 18, 19, 20, 21, 22, 23, 24, 25, 26, 27, 28, 29, 30, 31, 32, 33, 34, 35, 36, 37, 38, 39, 40, 41, 42, 43, 44, 45, 46, 47, 48, 49, 50, 51, 52, 53, 54, 55, 56, 57, 58, 59, 60, 61, 62, 63, 64, 65, 66, 67, 68, 69, 70, 71, 72, 73, 74, 75, 76, 77, 78, 79, 80, 81, 82, 83, 84, 85, 86, 87, 4, 5, 7, 138, 139, 140, 141, 142, 143, 144, 145, 146, 147, 148, 149, 150, 151, 152, 153, 158, 159, 160, 161, 162, 163, 164, 165, 166, 167, 168, 169, 170, 171, 172, 173, 174, 175, 176, 177, 178, 179, 180, 181, 182] (by decide +kernel) (by decide +kernel)
set_option maxRecDepth 20000 in
theorem gX11_weight_X11_isPiece : GoodIn wsX11_weight (wsV RX11 166 RX11 yX11_isPiece wsX11_isPiece) := goodIn_app (goodIn_of _ (by decide +kernel)) ggX11_weight_X11_isPiece
theorem dX11_weight_0 : decode cX11_weight 0 = .ok (.iload_n 1, 1) := by decide +kernel
theorem dX11_weight_1 : decode cX11_weight 1 = .ok (.iconst 0, 1) := by decide +kernel
theorem dX11_weight_2 : decode cX11_weight 2 = .ok (.bipush 7, 2) := by decide +kernel
theorem dX11_weight_4 : decode cX11_weight 4 = .ok (.invokestatic 104, 3) := by decide +kernel
theorem dX11_weight_7 : decode cX11_weight 7 = .ok (.ifCond .eq 11, 3) := by decide +kernel
theorem dX11_weight_10 : decode cX11_weight 10 = .ok (.aload_n 0, 1) := by decide +kernel
theorem dX11_weight_11 : decode cX11_weight 11 = .ok (.iload_n 2, 1) := by decide +kernel
theorem dX11_weight_12 : decode cX11_weight 12 = .ok (.invokevirtual 166, 3) := by decide +kernel
theorem dX11_weight_15 : decode cX11_weight 15 = .ok (.ifCond .ne 5, 3) := by decide +kernel
theorem dX11_weight_18 : decode cX11_weight 18 = .ok (.iconst (-1), 1) := by decide +kernel
theorem dX11_weight_19 : decode cX11_weight 19 = .ok (.ireturn, 1) := by decide +kernel
set_option maxRecDepth 20000 in
theorem ggX11_count_X7_deafRows : GoodIn wsX11_count wsX7_deafRows := goodIn_r _ [9, 10, 11, 33, 34, 35, 36, 37] (by decide +kernel) (by decide +kernel)
set_option maxRecDepth 20000 in
theorem gX11_count_X7_deafRows : GoodIn wsX11_count (wsV RX11 292 RX7 yX7_deafRows wsX7_deafRows) := goodIn_app (goodIn_of _ (by decide +kernel)) ggX11_count_X7_deafRows
set_option maxRecDepth 20000 in
theorem ggX11_count_X7_outRows : GoodIn wsX11_count wsX7_outRows := goodIn_r _ [15, 10, 16, 33, 34, 35, 36, 37] (by decide +kernel) (by decide +kernel)
set_option maxRecDepth 20000 in
theorem gX11_count_X7_outRows : GoodIn wsX11_count (wsV RX11 295 RX7 yX7_outRows wsX7_outRows) := goodIn_app (goodIn_of _ (by decide +kernel)) ggX11_count_X7_outRows
theorem dX11_count_0 : decode cX11_count 0 = .ok (.iload_n 1, 1) := by decide +kernel
theorem dX11_count_1 : decode cX11_count 1 = .ok (.tableswitch 87 0 5 #[39, 47, 55, 63, 71, 79], 39) := by decide +kernel
theorem dX11_count_40 : decode cX11_count 40 = .ok (.aload_n 0, 1) := by decide +kernel
theorem dX11_count_41 : decode cX11_count 41 = .ok (.getfield 19, 3) := by decide +kernel
theorem dX11_count_44 : decode cX11_count 44 = .ok (.getfield 130, 3) := by decide +kernel
theorem dX11_count_47 : decode cX11_count 47 = .ok (.ireturn, 1) := by decide +kernel
theorem dX11_count_48 : decode cX11_count 48 = .ok (.aload_n 0, 1) := by decide +kernel
theorem dX11_count_49 : decode cX11_count 49 = .ok (.getfield 19, 3) := by decide +kernel
theorem dX11_count_52 : decode cX11_count 52 = .ok (.invokevirtual 292, 3) := by decide +kernel
theorem dX11_count_55 : decode cX11_count 55 = .ok (.ireturn, 1) := by decide +kernel
theorem dX11_count_56 : decode cX11_count 56 = .ok (.aload_n 0, 1) := by decide +kernel
theorem dX11_count_57 : decode cX11_count 57 = .ok (.getfield 19, 3) := by decide +kernel
theorem dX11_count_60 : decode cX11_count 60 = .ok (.invokevirtual 295, 3) := by decide +kernel
theorem dX11_count_63 : decode cX11_count 63 = .ok (.ireturn, 1) := by decide +kernel
theorem dX11_count_64 : decode cX11_count 64 = .ok (.aload_n 0, 1) := by decide +kernel
theorem dX11_count_65 : decode cX11_count 65 = .ok (.getfield 61, 3) := by decide +kernel
theorem dX11_count_68 : decode cX11_count 68 = .ok (.getfield 285, 3) := by decide +kernel
theorem dX11_count_71 : decode cX11_count 71 = .ok (.ireturn, 1) := by decide +kernel
theorem dX11_count_72 : decode cX11_count 72 = .ok (.aload_n 0, 1) := by decide +kernel
theorem dX11_count_73 : decode cX11_count 73 = .ok (.getfield 68, 3) := by decide +kernel
theorem dX11_count_76 : decode cX11_count 76 = .ok (.getfield 148, 3) := by decide +kernel
theorem dX11_count_79 : decode cX11_count 79 = .ok (.ireturn, 1) := by decide +kernel
theorem dX11_count_80 : decode cX11_count 80 = .ok (.aload_n 0, 1) := by decide +kernel
theorem dX11_count_81 : decode cX11_count 81 = .ok (.getfield 10, 3) := by decide +kernel
theorem dX11_count_84 : decode cX11_count 84 = .ok (.getfield 112, 3) := by decide +kernel
theorem dX11_count_87 : decode cX11_count 87 = .ok (.ireturn, 1) := by decide +kernel
theorem dX11_count_88 : decode cX11_count 88 = .ok (.iconst (-1), 1) := by decide +kernel
theorem dX11_count_89 : decode cX11_count 89 = .ok (.ireturn, 1) := by decide +kernel
theorem dX11_trace_0 : decode cX11_trace 0 = .ok (.aload_n 0, 1) := by decide +kernel
theorem dX11_trace_1 : decode cX11_trace 1 = .ok (.getfield 82, 3) := by decide +kernel
theorem dX11_trace_4 : decode cX11_trace 4 = .ok (.getfield 298, 3) := by decide +kernel
theorem dX11_trace_7 : decode cX11_trace 7 = .ok (.lreturn, 1) := by decide +kernel
theorem dX11_within_0 : decode cX11_within 0 = .ok (.iload_n 0, 1) := by decide +kernel
theorem dX11_within_1 : decode cX11_within 1 = .ok (.iload_n 1, 1) := by decide +kernel
theorem dX11_within_2 : decode cX11_within 2 = .ok (.if_icmp .lt 12, 3) := by decide +kernel
theorem dX11_within_5 : decode cX11_within 5 = .ok (.iload_n 0, 1) := by decide +kernel
theorem dX11_within_6 : decode cX11_within 6 = .ok (.iload_n 2, 1) := by decide +kernel
theorem dX11_within_7 : decode cX11_within 7 = .ok (.if_icmp .gt 7, 3) := by decide +kernel
theorem dX11_within_10 : decode cX11_within 10 = .ok (.iconst 1, 1) := by decide +kernel
theorem dX11_within_11 : decode cX11_within 11 = .ok (.goto 4, 3) := by decide +kernel
theorem dX11_within_14 : decode cX11_within 14 = .ok (.iconst 0, 1) := by decide +kernel
theorem dX11_within_15 : decode cX11_within 15 = .ok (.ireturn, 1) := by decide +kernel
set_option maxRecDepth 20000 in
theorem ggX11_isLoudness_X11_within : GoodIn wsX11_isLoudness wsX11_within := goodIn_r _ [4] (by decide +kernel) (by decide +kernel)
set_option maxRecDepth 20000 in
theorem gX11_isLoudness_X11_within : GoodIn wsX11_isLoudness (va_wsS RX11 104 yX11_within wsX11_within) := goodIn_app (goodIn_of _ (by decide +kernel)) ggX11_isLoudness_X11_within
theorem dX11_isLoudness_0 : decode cX11_isLoudness 0 = .ok (.iload_n 0, 1) := by decide +kernel
theorem dX11_isLoudness_1 : decode cX11_isLoudness 1 = .ok (.iconst 0, 1) := by decide +kernel
theorem dX11_isLoudness_2 : decode cX11_isLoudness 2 = .ok (.bipush 99, 2) := by decide +kernel
theorem dX11_isLoudness_4 : decode cX11_isLoudness 4 = .ok (.invokestatic 104, 3) := by decide +kernel
theorem dX11_isLoudness_7 : decode cX11_isLoudness 7 = .ok (.ireturn, 1) := by decide +kernel
set_option maxRecDepth 20000 in
theorem ggX11_isHeapNumber_X11_within : GoodIn wsX11_isHeapNumber wsX11_within := goodIn_r _ [4] (by decide +kernel) (by decide +kernel)
set_option maxRecDepth 20000 in
theorem gX11_isHeapNumber_X11_within : GoodIn wsX11_isHeapNumber (va_wsS RX11 104 yX11_within wsX11_within) := goodIn_app (goodIn_of _ (by decide +kernel)) ggX11_isHeapNumber_X11_within
theorem dX11_isHeapNumber_0 : decode cX11_isHeapNumber 0 = .ok (.iload_n 0, 1) := by decide +kernel
theorem dX11_isHeapNumber_1 : decode cX11_isHeapNumber 1 = .ok (.iconst 0, 1) := by decide +kernel
theorem dX11_isHeapNumber_2 : decode cX11_isHeapNumber 2 = .ok (.bipush 8, 2) := by decide +kernel
theorem dX11_isHeapNumber_4 : decode cX11_isHeapNumber 4 = .ok (.invokestatic 104, 3) := by decide +kernel
theorem dX11_isHeapNumber_7 : decode cX11_isHeapNumber 7 = .ok (.ireturn, 1) := by decide +kernel
theorem dX11_areRows_0 : decode cX11_areRows 0 = .ok (.iload_n 1, 1) := by decide +kernel
theorem dX11_areRows_1 : decode cX11_areRows 1 = .ok (.ifCond .lt 23, 3) := by decide +kernel
theorem dX11_areRows_4 : decode cX11_areRows 4 = .ok (.iload_n 1, 1) := by decide +kernel
theorem dX11_areRows_5 : decode cX11_areRows 5 = .ok (.iload_n 2, 1) := by decide +kernel
theorem dX11_areRows_6 : decode cX11_areRows 6 = .ok (.if_icmp .gt 18, 3) := by decide +kernel
theorem dX11_areRows_9 : decode cX11_areRows 9 = .ok (.iload_n 2, 1) := by decide +kernel
theorem dX11_areRows_10 : decode cX11_areRows 10 = .ok (.aload_n 0, 1) := by decide +kernel
theorem dX11_areRows_11 : decode cX11_areRows 11 = .ok (.getfield 19, 3) := by decide +kernel
theorem dX11_areRows_14 : decode cX11_areRows 14 = .ok (.getfield 130, 3) := by decide +kernel
theorem dX11_areRows_17 : decode cX11_areRows 17 = .ok (.if_icmp .ge 7, 3) := by decide +kernel
theorem dX11_areRows_24 : decode cX11_areRows 24 = .ok (.iconst 0, 1) := by decide +kernel
theorem dX11_areRows_25 : decode cX11_areRows 25 = .ok (.ireturn, 1) := by decide +kernel
set_option maxRecDepth 20000 in
theorem ggX11_isPiece_X11_cutNow : GoodIn wsX11_isPiece wsX11_cutNow := goodIn_r _ [6, 7, 1, 8, 9, 10, 11, 12, 13, 14, 15, 16, 17, 18, 19, 20, 21, 22, 23, 24, 25, 26, 27, 28, 29, 30, 31, 32, 33, 34, 35, 36, 37, 38, 39, 40, 41, 42, 43, 44, 45, 46, 47, 48, 49, 50, 51, 52, 53, 54, 55, 56, 57, 58, 59, 60, 61, 62, 63, 64, 65, 66, 67, 68, 69, 70, 71, 72, 73, 74, 75, 76, 77, 78, 82, 83, 84, 85, 86, 87, 88, 89, 90, 91, 92, 93, 94, 95, 96, 97, 110, 111, 112, 113, 114, 98, 99, 100, 101, 102, 103, 104, 105, 106, 107, 108, 109, 115, 116, 117, 118, 119, 120, 121, 122] (by decide +kernel) (by decide +kernel)
set_option maxRecDepth 20000 in
theorem gX11_isPiece_X11_cutNow : GoodIn wsX11_isPiece (wsV RX11 151 RX11 yX11_cutNow wsX11_cutNow) := goodIn_app (goodIn_of _ (by decide +kernel)) ggX11_isPiece_X11_cutNow
set_option maxRecDepth 20000 in
theorem ggX11_isPiece_X11_within : GoodIn wsX11_isPiece wsX11_within := goodIn_r _ [81] (by decide +kernel) (by decide +kernel)
set_option maxRecDepth 20000 in
theorem gX11_isPiece_X11_within : GoodIn wsX11_isPiece (va_wsS RX11 104 yX11_within wsX11_within) := goodIn_app (goodIn_of _ (by decide +kernel)) ggX11_isPiece_X11_within
theorem dX11_isPiece_0 : decode cX11_isPiece 0 = .ok (.aload_n 0, 1) := by decide +kernel
theorem dX11_isPiece_1 : decode cX11_isPiece 1 = .ok (.invokevirtual 151, 3) := by decide +kernel
theorem dX11_isPiece_4 : decode cX11_isPiece 4 = .ok (.iload_n 1, 1) := by decide +kernel
theorem dX11_isPiece_5 : decode cX11_isPiece 5 = .ok (.iconst 0, 1) := by decide +kernel
theorem dX11_isPiece_6 : decode cX11_isPiece 6 = .ok (.aload_n 0, 1) := by decide +kernel
theorem dX11_isPiece_7 : decode cX11_isPiece 7 = .ok (.getfield 33, 3) := by decide +kernel
theorem dX11_isPiece_10 : decode cX11_isPiece 10 = .ok (.getfield 154, 3) := by decide +kernel
theorem dX11_isPiece_13 : decode cX11_isPiece 13 = .ok (.iconst 1, 1) := by decide +kernel
theorem dX11_isPiece_14 : decode cX11_isPiece 14 = .ok (.isub, 1) := by decide +kernel
theorem dX11_isPiece_15 : decode cX11_isPiece 15 = .ok (.invokestatic 104, 3) := by decide +kernel
theorem dX11_isPiece_18 : decode cX11_isPiece 18 = .ok (.ireturn, 1) := by decide +kernel
set_option maxRecDepth 20000 in
theorem ggX11_refusedHeap_X11_heapNow : GoodIn wsX11_refusedHeap wsX11_heapNow := goodIn_r _ [6, 7, 8, 9, 10, 1, 11, 12, 13, 14, 15, 16, 5, 17, 18, 19, 20, 21, 22, 23, 24, 25, 26, 27, 28, 29, 30, 31, 32, 33, 34, 35, 36, 37, 38, 39, 40, 41, 42, 43, 44, 45, 46, 47, 48, 49, 50, 51, 52, 53, 54, 55, 56, 57, 58, 59, 60, 61, 62, 63, 64, 65, 66, 67, 68, 69, 70, 71, 72, 73, 74, 75, 76, 77, 78, 79, 80, 81, 82, 83, 84, 85, 86, 87, 88, 89, 90, 91, 92, 93, 94, 95, 96, 97, 98, 99, 100, 101, 102, 103, 104, 105, 106, 107, 108, 109, 110, 111, 112, 113, 114, 115, 116, 117, 118, 119, 120, 121, 122, 123, 124, 125, 126, 127, 128, 129, 130, 131, 132, 133, 134, 135, 136, 137, 138, 139, 140, 141, 142, 143, 144, 145, 146, 147, 148, 149, 150, 151, 152, 153, 154, 155, 156, 157, 158, 159, 160, 161, 162, 163, 164, 165, 166, 167, 168, 169, 170, 171, 172, 173, 174, 175, 176, 177, 178, 179, 180, 181, 182, 183, 184, 185, 186, 187, 188, 189, 190, 191, 192, 193, 194, 195, 196, 212, 213, 214, 215, 216, 217, 218, 219, 220, 221, 222, 223, 197, 198, 199, 200, 201, 202, 203, 204, 205, 206, 224, 225, 226, 227, 228, 229, 230, 231, 232, 233, 234, 235, 236, 237, 238, 239, 240, 207, 208, 209, 210, 211] (by decide +kernel) (by decide +kernel)
set_option maxRecDepth 20000 in
theorem gX11_refusedHeap_X11_heapNow : GoodIn wsX11_refusedHeap (wsV RX11 190 RX11 yX11_heapNow wsX11_heapNow) := goodIn_app (goodIn_of _ (by decide +kernel)) ggX11_refusedHeap_X11_heapNow
theorem dX11_refusedHeap_0 : decode cX11_refusedHeap 0 = .ok (.aload_n 0, 1) := by decide +kernel
theorem dX11_refusedHeap_1 : decode cX11_refusedHeap 1 = .ok (.invokevirtual 190, 3) := by decide +kernel
theorem dX11_refusedHeap_4 : decode cX11_refusedHeap 4 = .ok (.ifCond .ne 6, 3) := by decide +kernel
theorem dX11_refusedHeap_10 : decode cX11_refusedHeap 10 = .ok (.iload_n 1, 1) := by decide +kernel
theorem dX11_refusedHeap_11 : decode cX11_refusedHeap 11 = .ok (.aload_n 0, 1) := by decide +kernel
theorem dX11_refusedHeap_12 : decode cX11_refusedHeap 12 = .ok (.getfield 47, 3) := by decide +kernel
theorem dX11_refusedHeap_15 : decode cX11_refusedHeap 15 = .ok (.getfield 228, 3) := by decide +kernel
theorem dX11_refusedHeap_18 : decode cX11_refusedHeap 18 = .ok (.getfield 204, 3) := by decide +kernel
theorem dX11_refusedHeap_21 : decode cX11_refusedHeap 21 = .ok (.if_icmp .ge 7, 3) := by decide +kernel
theorem dX11_refusedHeap_24 : decode cX11_refusedHeap 24 = .ok (.iconst 0, 1) := by decide +kernel
theorem dX11_refusedHeap_25 : decode cX11_refusedHeap 25 = .ok (.goto 4, 3) := by decide +kernel
theorem dX11_refusedHeap_28 : decode cX11_refusedHeap 28 = .ok (.iconst (-1), 1) := by decide +kernel
theorem dX11_refusedHeap_29 : decode cX11_refusedHeap 29 = .ok (.ireturn, 1) := by decide +kernel
theorem dX11_byWay_0 : decode cX11_byWay 0 = .ok (.iload_n 1, 1) := by decide +kernel
theorem dX11_byWay_1 : decode cX11_byWay 1 = .ok (.ifCond .ne 13, 3) := by decide +kernel
theorem dX11_byWay_4 : decode cX11_byWay 4 = .ok (.aload_n 0, 1) := by decide +kernel
theorem dX11_byWay_5 : decode cX11_byWay 5 = .ok (.getfield 47, 3) := by decide +kernel
theorem dX11_byWay_8 : decode cX11_byWay 8 = .ok (.getfield 228, 3) := by decide +kernel
theorem dX11_byWay_11 : decode cX11_byWay 11 = .ok (.goto 7, 3) := by decide +kernel
theorem dX11_byWay_14 : decode cX11_byWay 14 = .ok (.aload_n 0, 1) := by decide +kernel
theorem dX11_byWay_15 : decode cX11_byWay 15 = .ok (.getfield 54, 3) := by decide +kernel
theorem dX11_byWay_18 : decode cX11_byWay 18 = .ok (.areturn, 1) := by decide +kernel
theorem dX11_nothingIsFound_0 : decode cX11_nothingIsFound 0 = .ok (.aload_n 0, 1) := by decide +kernel
theorem dX11_nothingIsFound_1 : decode cX11_nothingIsFound 1 = .ok (.iconst 1, 1) := by decide +kernel
theorem dX11_nothingIsFound_2 : decode cX11_nothingIsFound 2 = .ok (.putfield 94, 3) := by decide +kernel
theorem dX11_nothingIsFound_5 : decode cX11_nothingIsFound 5 = .ok (.aload_n 0, 1) := by decide +kernel
theorem dX11_nothingIsFound_6 : decode cX11_nothingIsFound 6 = .ok (.iconst 1, 1) := by decide +kernel
theorem dX11_nothingIsFound_7 : decode cX11_nothingIsFound 7 = .ok (.putfield 98, 3) := by decide +kernel
theorem dX11_nothingIsFound_10 : decode cX11_nothingIsFound 10 = .ok (.aload_n 0, 1) := by decide +kernel
theorem dX11_nothingIsFound_11 : decode cX11_nothingIsFound 11 = .ok (.iconst 1, 1) := by decide +kernel
theorem dX11_nothingIsFound_12 : decode cX11_nothingIsFound 12 = .ok (.putfield 101, 3) := by decide +kernel
theorem dX11_nothingIsFound_15 : decode cX11_nothingIsFound 15 = .ok (.return_, 1) := by decide +kernel
set_option maxRecDepth 20000 in
theorem ggX11_cutNow_X8_ruleNow : GoodIn wsX11_cutNow wsX8_ruleNow := goodIn_r _ [10, 11, 90, 91, 92, 93, 94] (by decide +kernel) (by decide +kernel)
set_option maxRecDepth 20000 in
theorem gX11_cutNow_X8_ruleNow : GoodIn wsX11_cutNow (wsV RX11 122 RX8 yX8_ruleNow wsX8_ruleNow) := goodIn_app (goodIn_of _ (by decide +kernel)) ggX11_cutNow_X8_ruleNow
set_option maxRecDepth 20000 in
theorem ggX11_cutNow_X2_cut : GoodIn wsX11_cutNow wsX2_cut := goodIn_r _ [16, 17, 18, 19, 20, 21, 22, 23, 24, 25, 26, 27, 28, 29, 30, 31, 32, 33, 34, 35, 36, 37, 15, 38, 39, 40, 41, 42, 43, 44, 45, 46, 47, 48, 49, 50, 51, 52, 53, 54, 55, 56, 57, 58, 59, 60, 61, 62, 63, 64, 65, 66, 67, 68, 69, 70, 71, 72, 73, 95, 96, 97, 98, 99, 100, 101, 102, 103, 104, 105, 106, 107, 108, 109, 110, 111, 112, 113, 114] (by decide +kernel) (by decide +kernel)
set_option maxRecDepth 20000 in
theorem gX11_cutNow_X2_cut : GoodIn wsX11_cutNow (wsV RX11 302 RX2 yX2_cut wsX2_cut) := goodIn_app (goodIn_of _ (by decide +kernel)) ggX11_cutNow_X2_cut
theorem dX11_cutNow_0 : decode cX11_cutNow 0 = .ok (.aload_n 0, 1) := by decide +kernel
theorem dX11_cutNow_1 : decode cX11_cutNow 1 = .ok (.getfield 94, 3) := by decide +kernel
theorem dX11_cutNow_4 : decode cX11_cutNow 4 = .ok (.ifCond .eq 39, 3) := by decide +kernel
theorem dX11_cutNow_7 : decode cX11_cutNow 7 = .ok (.aload_n 0, 1) := by decide +kernel
theorem dX11_cutNow_8 : decode cX11_cutNow 8 = .ok (.getfield 33, 3) := by decide +kernel
theorem dX11_cutNow_11 : decode cX11_cutNow 11 = .ok (.aload_n 0, 1) := by decide +kernel
theorem dX11_cutNow_12 : decode cX11_cutNow 12 = .ok (.getfield 19, 3) := by decide +kernel
theorem dX11_cutNow_15 : decode cX11_cutNow 15 = .ok (.aload_n 0, 1) := by decide +kernel
theorem dX11_cutNow_16 : decode cX11_cutNow 16 = .ok (.getfield 26, 3) := by decide +kernel
theorem dX11_cutNow_19 : decode cX11_cutNow 19 = .ok (.aload_n 0, 1) := by decide +kernel
theorem dX11_cutNow_20 : decode cX11_cutNow 20 = .ok (.getfield 10, 3) := by decide +kernel
theorem dX11_cutNow_23 : decode cX11_cutNow 23 = .ok (.iconst 0, 1) := by decide +kernel
theorem dX11_cutNow_24 : decode cX11_cutNow 24 = .ok (.invokevirtual 122, 3) := by decide +kernel
theorem dX11_cutNow_27 : decode cX11_cutNow 27 = .ok (.aload_n 0, 1) := by decide +kernel
theorem dX11_cutNow_28 : decode cX11_cutNow 28 = .ok (.getfield 10, 3) := by decide +kernel
theorem dX11_cutNow_31 : decode cX11_cutNow 31 = .ok (.iconst 1, 1) := by decide +kernel
theorem dX11_cutNow_32 : decode cX11_cutNow 32 = .ok (.invokevirtual 122, 3) := by decide +kernel
theorem dX11_cutNow_35 : decode cX11_cutNow 35 = .ok (.invokevirtual 302, 3) := by decide +kernel
theorem dX11_cutNow_38 : decode cX11_cutNow 38 = .ok (.aload_n 0, 1) := by decide +kernel
theorem dX11_cutNow_39 : decode cX11_cutNow 39 = .ok (.iconst 0, 1) := by decide +kernel
theorem dX11_cutNow_40 : decode cX11_cutNow 40 = .ok (.putfield 94, 3) := by decide +kernel
theorem dX11_cutNow_43 : decode cX11_cutNow 43 = .ok (.return_, 1) := by decide +kernel
set_option maxRecDepth 20000 in
theorem ggX11_heapNow_X11_cutNow : GoodIn wsX11_heapNow wsX11_cutNow := goodIn_r _ [13, 14, 1, 6, 7, 4, 15, 16, 17, 18, 19, 20, 21, 22, 23, 24, 25, 26, 27, 28, 29, 30, 31, 32, 33, 34, 35, 36, 37, 38, 39, 40, 41, 42, 43, 44, 45, 46, 47, 48, 49, 50, 51, 52, 53, 54, 55, 56, 57, 58, 59, 60, 61, 62, 63, 64, 65, 66, 67, 68, 69, 70, 71, 72, 73, 74, 75, 76, 77, 78, 79, 80, 81, 82, 177, 178, 179, 180, 181, 182, 183, 184, 185, 186, 187, 188, 189, 190, 191, 192, 215, 216, 217, 218, 219, 193, 194, 195, 196, 197, 198, 199, 200, 201, 202, 203, 204, 220, 221, 222, 223, 224, 225, 226, 227] (by decide +kernel) (by decide +kernel)
set_option maxRecDepth 20000 in
theorem gX11_heapNow_X11_cutNow : GoodIn wsX11_heapNow (wsV RX11 151 RX11 yX11_cutNow wsX11_cutNow) := goodIn_app (goodIn_of _ (by decide +kernel)) ggX11_heapNow_X11_cutNow
set_option maxRecDepth 20000 in
theorem ggX11_heapNow_X8_ruleNow : GoodIn wsX11_heapNow wsX8_ruleNow := goodIn_r _ [19, 20, 215, 216, 217, 218, 219] (by decide +kernel) (by decide +kernel)
set_option maxRecDepth 20000 in
theorem gX11_heapNow_X8_ruleNow : GoodIn wsX11_heapNow (wsV RX11 122 RX8 yX8_ruleNow wsX8_ruleNow) := goodIn_app (goodIn_of _ (by decide +kernel)) ggX11_heapNow_X8_ruleNow
set_option maxRecDepth 20000 in
theorem ggX11_heapNow_X1_tie : GoodIn wsX11_heapNow wsX1_tie := goodIn_r _ [87, 88, 72, 64, 73, 89, 90, 91, 92, 93, 24, 94, 78, 75, 71, 95, 12, 96, 97, 98, 99, 100, 101, 102, 103, 104, 77, 105, 106, 107, 86, 108, 109, 193, 194, 195, 196, 197, 198, 199, 200, 201, 202, 203, 204, 228, 229, 230, 231] (by decide +kernel) (by decide +kernel)
set_option maxRecDepth 20000 in
theorem gX11_heapNow_X1_tie : GoodIn wsX11_heapNow (wsV RX11 306 RX1 yX1_tie wsX1_tie) := goodIn_app (goodIn_of _ (by decide +kernel)) ggX11_heapNow_X1_tie
set_option maxRecDepth 20000 in
theorem ggX11_heapNow_X0_findBest : GoodIn wsX11_heapNow wsX0_findBest := goodIn_r _ [114, 115, 116, 117, 118, 119, 33, 34, 35, 120, 121, 113, 122, 123, 124, 63, 64, 65, 125, 126, 127, 128, 129, 130, 131, 132, 133, 134, 135, 136, 72, 73, 137, 138, 139, 140, 141, 142, 86, 143, 109, 144, 145, 146, 205, 206, 207, 208, 209, 210, 211, 212, 213, 214, 232, 233, 234, 235, 236, 228, 229, 230, 231] (by decide +kernel) (by decide +kernel)
set_option maxRecDepth 20000 in
theorem gX11_heapNow_X0_findBest : GoodIn wsX11_heapNow (wsV RX11 310 RX0 yX0_findBest wsX0_findBest) := goodIn_app (goodIn_of _ (by decide +kernel)) ggX11_heapNow_X0_findBest
set_option maxRecDepth 20000 in
theorem ggX11_heapNow_X4_findMiddles : GoodIn wsX11_heapNow wsX4_findMiddles := goodIn_r _ [151, 152, 153, 154, 155, 51, 52, 53, 54, 55, 56, 156, 58, 59, 60, 61, 62, 63, 64, 65, 157, 80, 81, 82, 232, 233, 234, 235, 236, 220, 221, 222, 223, 224, 193, 194, 195, 196, 197, 198, 199, 200, 201, 202, 203, 204, 225, 226, 227] (by decide +kernel) (by decide +kernel)
set_option maxRecDepth 20000 in
theorem gX11_heapNow_X4_findMiddles : GoodIn wsX11_heapNow (wsV RX11 314 RX4 yX4_findMiddles wsX4_findMiddles) := goodIn_app (goodIn_of _ (by decide +kernel)) ggX11_heapNow_X4_findMiddles
set_option maxRecDepth 20000 in
theorem ggX11_heapNow_X1_join : GoodIn wsX11_heapNow wsX1_join := goodIn_r _ [161, 89, 162, 90, 163, 164, 165, 86, 166, 167, 168, 169, 150, 170, 171, 152, 153, 172, 33, 34, 35, 173, 174, 175, 176, 228, 229, 230, 231, 232, 233, 234, 235, 236] (by decide +kernel) (by decide +kernel)
set_option maxRecDepth 20000 in
theorem gX11_heapNow_X1_join : GoodIn wsX11_heapNow (wsV RX11 318 RX1 yX1_join wsX1_join) := goodIn_app (goodIn_of _ (by decide +kernel)) ggX11_heapNow_X1_join
theorem dX11_heapNow_0 : decode cX11_heapNow 0 = .ok (.aload_n 0, 1) := by decide +kernel
theorem dX11_heapNow_1 : decode cX11_heapNow 1 = .ok (.invokevirtual 151, 3) := by decide +kernel
theorem dX11_heapNow_4 : decode cX11_heapNow 4 = .ok (.aload_n 0, 1) := by decide +kernel
theorem dX11_heapNow_5 : decode cX11_heapNow 5 = .ok (.getfield 33, 3) := by decide +kernel
theorem dX11_heapNow_8 : decode cX11_heapNow 8 = .ok (.getfield 154, 3) := by decide +kernel
theorem dX11_heapNow_11 : decode cX11_heapNow 11 = .ok (.bipush 9, 2) := by decide +kernel
theorem dX11_heapNow_13 : decode cX11_heapNow 13 = .ok (.if_icmp .le 5, 3) := by decide +kernel
theorem dX11_heapNow_18 : decode cX11_heapNow 18 = .ok (.aload_n 0, 1) := by decide +kernel
theorem dX11_heapNow_19 : decode cX11_heapNow 19 = .ok (.getfield 98, 3) := by decide +kernel
theorem dX11_heapNow_22 : decode cX11_heapNow 22 = .ok (.ifCond .eq 79, 3) := by decide +kernel
theorem dX11_heapNow_25 : decode cX11_heapNow 25 = .ok (.aload_n 0, 1) := by decide +kernel
theorem dX11_heapNow_26 : decode cX11_heapNow 26 = .ok (.getfield 40, 3) := by decide +kernel
theorem dX11_heapNow_29 : decode cX11_heapNow 29 = .ok (.aload_n 0, 1) := by decide +kernel
theorem dX11_heapNow_30 : decode cX11_heapNow 30 = .ok (.getfield 33, 3) := by decide +kernel
theorem dX11_heapNow_33 : decode cX11_heapNow 33 = .ok (.aload_n 0, 1) := by decide +kernel
theorem dX11_heapNow_34 : decode cX11_heapNow 34 = .ok (.getfield 10, 3) := by decide +kernel
theorem dX11_heapNow_37 : decode cX11_heapNow 37 = .ok (.iconst 2, 1) := by decide +kernel
theorem dX11_heapNow_38 : decode cX11_heapNow 38 = .ok (.invokevirtual 122, 3) := by decide +kernel
theorem dX11_heapNow_41 : decode cX11_heapNow 41 = .ok (.aload_n 0, 1) := by decide +kernel
theorem dX11_heapNow_42 : decode cX11_heapNow 42 = .ok (.getfield 10, 3) := by decide +kernel
theorem dX11_heapNow_45 : decode cX11_heapNow 45 = .ok (.iconst 4, 1) := by decide +kernel
theorem dX11_heapNow_46 : decode cX11_heapNow 46 = .ok (.invokevirtual 122, 3) := by decide +kernel
theorem dX11_heapNow_49 : decode cX11_heapNow 49 = .ok (.invokevirtual 306, 3) := by decide +kernel
theorem dX11_heapNow_52 : decode cX11_heapNow 52 = .ok (.aload_n 0, 1) := by decide +kernel
theorem dX11_heapNow_53 : decode cX11_heapNow 53 = .ok (.getfield 47, 3) := by decide +kernel
theorem dX11_heapNow_56 : decode cX11_heapNow 56 = .ok (.aload_n 0, 1) := by decide +kernel
theorem dX11_heapNow_57 : decode cX11_heapNow 57 = .ok (.getfield 40, 3) := by decide +kernel
theorem dX11_heapNow_60 : decode cX11_heapNow 60 = .ok (.invokevirtual 310, 3) := by decide +kernel
theorem dX11_heapNow_63 : decode cX11_heapNow 63 = .ok (.aload_n 0, 1) := by decide +kernel
theorem dX11_heapNow_64 : decode cX11_heapNow 64 = .ok (.getfield 47, 3) := by decide +kernel
theorem dX11_heapNow_67 : decode cX11_heapNow 67 = .ok (.getfield 228, 3) := by decide +kernel
theorem dX11_heapNow_70 : decode cX11_heapNow 70 = .ok (.aload_n 0, 1) := by decide +kernel
theorem dX11_heapNow_71 : decode cX11_heapNow 71 = .ok (.getfield 19, 3) := by decide +kernel
theorem dX11_heapNow_74 : decode cX11_heapNow 74 = .ok (.aload_n 0, 1) := by decide +kernel
theorem dX11_heapNow_75 : decode cX11_heapNow 75 = .ok (.getfield 26, 3) := by decide +kernel
theorem dX11_heapNow_78 : decode cX11_heapNow 78 = .ok (.aload_n 0, 1) := by decide +kernel
theorem dX11_heapNow_79 : decode cX11_heapNow 79 = .ok (.getfield 33, 3) := by decide +kernel
theorem dX11_heapNow_82 : decode cX11_heapNow 82 = .ok (.invokevirtual 314, 3) := by decide +kernel
theorem dX11_heapNow_85 : decode cX11_heapNow 85 = .ok (.aload_n 0, 1) := by decide +kernel
theorem dX11_heapNow_86 : decode cX11_heapNow 86 = .ok (.getfield 40, 3) := by decide +kernel
theorem dX11_heapNow_89 : decode cX11_heapNow 89 = .ok (.aload_n 0, 1) := by decide +kernel
theorem dX11_heapNow_90 : decode cX11_heapNow 90 = .ok (.getfield 54, 3) := by decide +kernel
theorem dX11_heapNow_93 : decode cX11_heapNow 93 = .ok (.invokevirtual 318, 3) := by decide +kernel
theorem dX11_heapNow_96 : decode cX11_heapNow 96 = .ok (.aload_n 0, 1) := by decide +kernel
theorem dX11_heapNow_97 : decode cX11_heapNow 97 = .ok (.iconst 0, 1) := by decide +kernel
theorem dX11_heapNow_98 : decode cX11_heapNow 98 = .ok (.putfield 98, 3) := by decide +kernel
theorem dX11_heapNow_101 : decode cX11_heapNow 101 = .ok (.iconst 1, 1) := by decide +kernel
theorem dX11_heapNow_102 : decode cX11_heapNow 102 = .ok (.ireturn, 1) := by decide +kernel
set_option maxRecDepth 20000 in
theorem ggX11_nearNow_X8_ruleNow : GoodIn wsX11_nearNow wsX8_ruleNow := goodIn_r _ [9, 10, 74, 75, 76, 77, 78] (by decide +kernel) (by decide +kernel)
set_option maxRecDepth 20000 in
theorem gX11_nearNow_X8_ruleNow : GoodIn wsX11_nearNow (wsV RX11 122 RX8 yX8_ruleNow wsX8_ruleNow) := goodIn_app (goodIn_of _ (by decide +kernel)) ggX11_nearNow_X8_ruleNow
set_option maxRecDepth 20000 in
theorem ggX11_nearNow_X0_findNear : GoodIn wsX11_nearNow wsX0_findNear := goodIn_r _ [15, 16, 17, 18, 19, 20, 21, 22, 23, 24, 25, 26, 27, 28, 29, 30, 31, 14, 32, 33, 34, 35, 36, 37, 38, 39, 40, 41, 42, 43, 44, 45, 46, 47, 48, 49, 50, 51, 52, 53, 54, 55, 56, 57, 79, 80, 81, 82, 83, 84, 85, 86, 87, 88, 89, 90, 91, 92, 93, 94, 95, 96, 97] (by decide +kernel) (by decide +kernel)
set_option maxRecDepth 20000 in
theorem gX11_nearNow_X0_findNear : GoodIn wsX11_nearNow (wsV RX11 322 RX0 yX0_findNear wsX0_findNear) := goodIn_app (goodIn_of _ (by decide +kernel)) ggX11_nearNow_X0_findNear
theorem dX11_nearNow_0 : decode cX11_nearNow 0 = .ok (.aload_n 0, 1) := by decide +kernel
theorem dX11_nearNow_1 : decode cX11_nearNow 1 = .ok (.getfield 101, 3) := by decide +kernel
theorem dX11_nearNow_4 : decode cX11_nearNow 4 = .ok (.ifCond .eq 27, 3) := by decide +kernel
theorem dX11_nearNow_7 : decode cX11_nearNow 7 = .ok (.aload_n 0, 1) := by decide +kernel
theorem dX11_nearNow_8 : decode cX11_nearNow 8 = .ok (.getfield 47, 3) := by decide +kernel
theorem dX11_nearNow_11 : decode cX11_nearNow 11 = .ok (.aload_n 0, 1) := by decide +kernel
theorem dX11_nearNow_12 : decode cX11_nearNow 12 = .ok (.getfield 40, 3) := by decide +kernel
theorem dX11_nearNow_15 : decode cX11_nearNow 15 = .ok (.aload_n 0, 1) := by decide +kernel
theorem dX11_nearNow_16 : decode cX11_nearNow 16 = .ok (.getfield 10, 3) := by decide +kernel
theorem dX11_nearNow_19 : decode cX11_nearNow 19 = .ok (.iconst 3, 1) := by decide +kernel
theorem dX11_nearNow_20 : decode cX11_nearNow 20 = .ok (.invokevirtual 122, 3) := by decide +kernel
theorem dX11_nearNow_23 : decode cX11_nearNow 23 = .ok (.invokevirtual 322, 3) := by decide +kernel
theorem dX11_nearNow_26 : decode cX11_nearNow 26 = .ok (.aload_n 0, 1) := by decide +kernel
theorem dX11_nearNow_27 : decode cX11_nearNow 27 = .ok (.iconst 0, 1) := by decide +kernel
theorem dX11_nearNow_28 : decode cX11_nearNow 28 = .ok (.putfield 101, 3) := by decide +kernel
theorem dX11_nearNow_31 : decode cX11_nearNow 31 = .ok (.return_, 1) := by decide +kernel
theorem dX12_in_0 : decode cX12_in 0 = .ok (.iload_n 0, 1) := by decide +kernel
theorem dX12_in_1 : decode cX12_in 1 = .ok (.iload_n 1, 1) := by decide +kernel
theorem dX12_in_2 : decode cX12_in 2 = .ok (.if_icmp .lt 12, 3) := by decide +kernel
theorem dX12_in_5 : decode cX12_in 5 = .ok (.iload_n 0, 1) := by decide +kernel
theorem dX12_in_6 : decode cX12_in 6 = .ok (.iload_n 2, 1) := by decide +kernel
theorem dX12_in_7 : decode cX12_in 7 = .ok (.if_icmp .gt 7, 3) := by decide +kernel
theorem dX12_in_10 : decode cX12_in 10 = .ok (.iconst 1, 1) := by decide +kernel
theorem dX12_in_11 : decode cX12_in 11 = .ok (.goto 4, 3) := by decide +kernel
theorem dX12_in_14 : decode cX12_in 14 = .ok (.iconst 0, 1) := by decide +kernel
theorem dX12_in_15 : decode cX12_in 15 = .ok (.ireturn, 1) := by decide +kernel
theorem dX12_atFirst_0 : decode cX12_atFirst 0 = .ok (.aload_n 0, 1) := by decide +kernel
theorem dX12_atFirst_1 : decode cX12_atFirst 1 = .ok (.getfield 7, 3) := by decide +kernel
theorem dX12_atFirst_4 : decode cX12_atFirst 4 = .ok (.iload_n 1, 1) := by decide +kernel
theorem dX12_atFirst_5 : decode cX12_atFirst 5 = .ok (.iconst 0, 1) := by decide +kernel
theorem dX12_atFirst_6 : decode cX12_atFirst 6 = .ok (.iadd, 1) := by decide +kernel
theorem dX12_atFirst_7 : decode cX12_atFirst 7 = .ok (.bipush 20, 2) := by decide +kernel
theorem dX12_atFirst_9 : decode cX12_atFirst 9 = .ok (.iastore, 1) := by decide +kernel
theorem dX12_atFirst_10 : decode cX12_atFirst 10 = .ok (.aload_n 0, 1) := by decide +kernel
theorem dX12_atFirst_11 : decode cX12_atFirst 11 = .ok (.getfield 7, 3) := by decide +kernel
theorem dX12_atFirst_14 : decode cX12_atFirst 14 = .ok (.iload_n 1, 1) := by decide +kernel
theorem dX12_atFirst_15 : decode cX12_atFirst 15 = .ok (.iconst 1, 1) := by decide +kernel
theorem dX12_atFirst_16 : decode cX12_atFirst 16 = .ok (.iadd, 1) := by decide +kernel
theorem dX12_atFirst_17 : decode cX12_atFirst 17 = .ok (.bipush 10, 2) := by decide +kernel
theorem dX12_atFirst_19 : decode cX12_atFirst 19 = .ok (.iastore, 1) := by decide +kernel
theorem dX12_atFirst_20 : decode cX12_atFirst 20 = .ok (.aload_n 0, 1) := by decide +kernel
theorem dX12_atFirst_21 : decode cX12_atFirst 21 = .ok (.getfield 7, 3) := by decide +kernel
theorem dX12_atFirst_24 : decode cX12_atFirst 24 = .ok (.iload_n 1, 1) := by decide +kernel
theorem dX12_atFirst_25 : decode cX12_atFirst 25 = .ok (.iconst 2, 1) := by decide +kernel
theorem dX12_atFirst_26 : decode cX12_atFirst 26 = .ok (.iadd, 1) := by decide +kernel
theorem dX12_atFirst_27 : decode cX12_atFirst 27 = .ok (.bipush 40, 2) := by decide +kernel
theorem dX12_atFirst_29 : decode cX12_atFirst 29 = .ok (.iastore, 1) := by decide +kernel
theorem dX12_atFirst_30 : decode cX12_atFirst 30 = .ok (.aload_n 0, 1) := by decide +kernel
theorem dX12_atFirst_31 : decode cX12_atFirst 31 = .ok (.getfield 7, 3) := by decide +kernel
theorem dX12_atFirst_34 : decode cX12_atFirst 34 = .ok (.iload_n 1, 1) := by decide +kernel
theorem dX12_atFirst_35 : decode cX12_atFirst 35 = .ok (.iconst 3, 1) := by decide +kernel
theorem dX12_atFirst_36 : decode cX12_atFirst 36 = .ok (.iadd, 1) := by decide +kernel
theorem dX12_atFirst_37 : decode cX12_atFirst 37 = .ok (.iconst 0, 1) := by decide +kernel
theorem dX12_atFirst_38 : decode cX12_atFirst 38 = .ok (.iastore, 1) := by decide +kernel
theorem dX12_atFirst_39 : decode cX12_atFirst 39 = .ok (.aload_n 0, 1) := by decide +kernel
theorem dX12_atFirst_40 : decode cX12_atFirst 40 = .ok (.getfield 7, 3) := by decide +kernel
theorem dX12_atFirst_43 : decode cX12_atFirst 43 = .ok (.iload_n 1, 1) := by decide +kernel
theorem dX12_atFirst_44 : decode cX12_atFirst 44 = .ok (.iconst 4, 1) := by decide +kernel
theorem dX12_atFirst_45 : decode cX12_atFirst 45 = .ok (.iadd, 1) := by decide +kernel
theorem dX12_atFirst_46 : decode cX12_atFirst 46 = .ok (.iconst 0, 1) := by decide +kernel
theorem dX12_atFirst_47 : decode cX12_atFirst 47 = .ok (.iastore, 1) := by decide +kernel
theorem dX12_atFirst_48 : decode cX12_atFirst 48 = .ok (.aload_n 0, 1) := by decide +kernel
theorem dX12_atFirst_49 : decode cX12_atFirst 49 = .ok (.getfield 7, 3) := by decide +kernel
theorem dX12_atFirst_52 : decode cX12_atFirst 52 = .ok (.iload_n 1, 1) := by decide +kernel
theorem dX12_atFirst_53 : decode cX12_atFirst 53 = .ok (.iconst 5, 1) := by decide +kernel
theorem dX12_atFirst_54 : decode cX12_atFirst 54 = .ok (.iadd, 1) := by decide +kernel
theorem dX12_atFirst_55 : decode cX12_atFirst 55 = .ok (.bipush 10, 2) := by decide +kernel
theorem dX12_atFirst_57 : decode cX12_atFirst 57 = .ok (.iastore, 1) := by decide +kernel
theorem dX12_atFirst_58 : decode cX12_atFirst 58 = .ok (.return_, 1) := by decide +kernel
set_option maxRecDepth 20000 in
theorem ggX12_type_X12_in : GoodIn wsX12_type wsX12_in := goodIn_r _ [7] (by decide +kernel) (by decide +kernel)
set_option maxRecDepth 20000 in
theorem gX12_type_X12_in : GoodIn wsX12_type (va_wsS RX12 100 yX12_in wsX12_in) := goodIn_app (goodIn_of _ (by decide +kernel)) ggX12_type_X12_in
theorem dX12_type_0 : decode cX12_type 0 = .ok (.iload_n 3, 1) := by decide +kernel
theorem dX12_type_1 : decode cX12_type 1 = .ok (.iconst 1, 1) := by decide +kernel
theorem dX12_type_2 : decode cX12_type 2 = .ok (.bipush 8, 2) := by decide +kernel
theorem dX12_type_4 : decode cX12_type 4 = .ok (.invokestatic 100, 3) := by decide +kernel
theorem dX12_type_7 : decode cX12_type 7 = .ok (.ifCond .ne 5, 3) := by decide +kernel
theorem dX12_type_10 : decode cX12_type 10 = .ok (.iconst (-1), 1) := by decide +kernel
theorem dX12_type_11 : decode cX12_type 11 = .ok (.ireturn, 1) := by decide +kernel
theorem dX12_type_12 : decode cX12_type 12 = .ok (.aload_n 0, 1) := by decide +kernel
theorem dX12_type_13 : decode cX12_type 13 = .ok (.getfield 104, 3) := by decide +kernel
theorem dX12_type_16 : decode cX12_type 16 = .ok (.iload_n 3, 1) := by decide +kernel
theorem dX12_type_17 : decode cX12_type 17 = .ok (.iadd, 1) := by decide +kernel
theorem dX12_type_18 : decode cX12_type 18 = .ok (.sipush 200, 3) := by decide +kernel
theorem dX12_type_21 : decode cX12_type 21 = .ok (.if_icmp .le 6, 3) := by decide +kernel
theorem dX12_type_27 : decode cX12_type 27 = .ok (.iload_n 3, 1) := by decide +kernel
theorem dX12_type_28 : decode cX12_type 28 = .ok (.iconst 1, 1) := by decide +kernel
theorem dX12_type_29 : decode cX12_type 29 = .ok (.isub, 1) := by decide +kernel
theorem dX12_type_30 : decode cX12_type 30 = .ok (.istore 4, 2) := by decide +kernel
theorem dX12_type_32 : decode cX12_type 32 = .ok (.iload 4, 2) := by decide +kernel
theorem dX12_type_34 : decode cX12_type 34 = .ok (.ifCond .lt 41, 3) := by decide +kernel
theorem dX12_type_37 : decode cX12_type 37 = .ok (.aload_n 0, 1) := by decide +kernel
theorem dX12_type_38 : decode cX12_type 38 = .ok (.getfield 13, 3) := by decide +kernel
theorem dX12_type_41 : decode cX12_type 41 = .ok (.aload_n 0, 1) := by decide +kernel
theorem dX12_type_42 : decode cX12_type 42 = .ok (.getfield 104, 3) := by decide +kernel
theorem dX12_type_45 : decode cX12_type 45 = .ok (.lload_n 1, 1) := by decide +kernel
theorem dX12_type_46 : decode cX12_type 46 = .ok (.bipush 8, 2) := by decide +kernel
theorem dX12_type_48 : decode cX12_type 48 = .ok (.iload 4, 2) := by decide +kernel
theorem dX12_type_50 : decode cX12_type 50 = .ok (.imul, 1) := by decide +kernel
theorem dX12_type_51 : decode cX12_type 51 = .ok (.lshr, 1) := by decide +kernel
theorem dX12_type_52 : decode cX12_type 52 = .ok (.ldc2_w 108, 3) := by decide +kernel
theorem dX12_type_55 : decode cX12_type 55 = .ok (.land, 1) := by decide +kernel
theorem dX12_type_56 : decode cX12_type 56 = .ok (.l2i, 1) := by decide +kernel
theorem dX12_type_57 : decode cX12_type 57 = .ok (.i2b, 1) := by decide +kernel
theorem dX12_type_58 : decode cX12_type 58 = .ok (.bastore, 1) := by decide +kernel
theorem dX12_type_59 : decode cX12_type 59 = .ok (.aload_n 0, 1) := by decide +kernel
theorem dX12_type_60 : decode cX12_type 60 = .ok (.dup, 1) := by decide +kernel
theorem dX12_type_61 : decode cX12_type 61 = .ok (.getfield 104, 3) := by decide +kernel
theorem dX12_type_64 : decode cX12_type 64 = .ok (.iconst 1, 1) := by decide +kernel
theorem dX12_type_65 : decode cX12_type 65 = .ok (.iadd, 1) := by decide +kernel
theorem dX12_type_66 : decode cX12_type 66 = .ok (.putfield 104, 3) := by decide +kernel
theorem dX12_type_69 : decode cX12_type 69 = .ok (.iinc 4 (-1), 3) := by decide +kernel
theorem dX12_type_72 : decode cX12_type 72 = .ok (.goto (-40), 3) := by decide +kernel
theorem dX12_type_75 : decode cX12_type 75 = .ok (.aload_n 0, 1) := by decide +kernel
theorem dX12_type_76 : decode cX12_type 76 = .ok (.getfield 104, 3) := by decide +kernel
theorem dX12_type_79 : decode cX12_type 79 = .ok (.ireturn, 1) := by decide +kernel
theorem dX12_clear_0 : decode cX12_clear 0 = .ok (.aload_n 0, 1) := by decide +kernel
theorem dX12_clear_1 : decode cX12_clear 1 = .ok (.getfield 104, 3) := by decide +kernel
theorem dX12_clear_4 : decode cX12_clear 4 = .ok (.istore_n 1, 1) := by decide +kernel
theorem dX12_clear_5 : decode cX12_clear 5 = .ok (.aload_n 0, 1) := by decide +kernel
theorem dX12_clear_6 : decode cX12_clear 6 = .ok (.iconst 0, 1) := by decide +kernel
theorem dX12_clear_7 : decode cX12_clear 7 = .ok (.putfield 104, 3) := by decide +kernel
theorem dX12_clear_10 : decode cX12_clear 10 = .ok (.iload_n 1, 1) := by decide +kernel
theorem dX12_clear_11 : decode cX12_clear 11 = .ok (.ireturn, 1) := by decide +kernel
theorem dX12_here_0 : decode cX12_here 0 = .ok (.aload_n 0, 1) := by decide +kernel
theorem dX12_here_1 : decode cX12_here 1 = .ok (.getfield 110, 3) := by decide +kernel
theorem dX12_here_4 : decode cX12_here 4 = .ok (.aload_n 0, 1) := by decide +kernel
theorem dX12_here_5 : decode cX12_here 5 = .ok (.getfield 104, 3) := by decide +kernel
theorem dX12_here_8 : decode cX12_here 8 = .ok (.if_icmp .ge 19, 3) := by decide +kernel
theorem dX12_here_27 : decode cX12_here 27 = .ok (.iconst (-1), 1) := by decide +kernel
theorem dX12_here_28 : decode cX12_here 28 = .ok (.ireturn, 1) := by decide +kernel
set_option maxRecDepth 20000 in
theorem ggX12_next_X12_here : GoodIn wsX12_next wsX12_here := goodIn_r _ [9, 1, 10, 11, 27, 28, 29, 30, 31, 32, 33, 34, 35, 36, 37, 38, 39, 40, 41, 42, 43, 44, 45, 46, 47, 48, 49, 50, 51, 52, 53, 54, 55, 56, 57, 58, 59, 60, 61, 62, 63, 64, 65, 66, 67, 68, 69, 70, 71] (by decide +kernel) (by decide +kernel)
set_option maxRecDepth 20000 in
theorem gX12_next_X12_here : GoodIn wsX12_next (wsV RX12 125 RX12 yX12_here wsX12_here) := goodIn_app (goodIn_of _ (by decide +kernel)) ggX12_next_X12_here
theorem dX12_next_0 : decode cX12_next 0 = .ok (.aload_n 0, 1) := by decide +kernel
theorem dX12_next_1 : decode cX12_next 1 = .ok (.invokevirtual 125, 3) := by decide +kernel
theorem dX12_next_4 : decode cX12_next 4 = .ok (.bipush 32, 2) := by decide +kernel
theorem dX12_next_6 : decode cX12_next 6 = .ok (.if_icmp .ne 16, 3) := by decide +kernel
theorem dX12_next_22 : decode cX12_next 22 = .ok (.aload_n 0, 1) := by decide +kernel
theorem dX12_next_23 : decode cX12_next 23 = .ok (.aload_n 0, 1) := by decide +kernel
theorem dX12_next_24 : decode cX12_next 24 = .ok (.getfield 110, 3) := by decide +kernel
theorem dX12_next_27 : decode cX12_next 27 = .ok (.putfield 129, 3) := by decide +kernel
theorem dX12_next_30 : decode cX12_next 30 = .ok (.aload_n 0, 1) := by decide +kernel
theorem dX12_next_31 : decode cX12_next 31 = .ok (.iconst 0, 1) := by decide +kernel
theorem dX12_next_32 : decode cX12_next 32 = .ok (.putfield 132, 3) := by decide +kernel
theorem dX12_next_35 : decode cX12_next 35 = .ok (.aload_n 0, 1) := by decide +kernel
theorem dX12_next_36 : decode cX12_next 36 = .ok (.invokevirtual 125, 3) := by decide +kernel
theorem dX12_next_39 : decode cX12_next 39 = .ok (.istore_n 1, 1) := by decide +kernel
theorem dX12_next_40 : decode cX12_next 40 = .ok (.iload_n 1, 1) := by decide +kernel
theorem dX12_next_41 : decode cX12_next 41 = .ok (.ifCond .ge 11, 3) := by decide +kernel
theorem dX12_next_44 : decode cX12_next 44 = .ok (.aload_n 0, 1) := by decide +kernel
theorem dX12_next_45 : decode cX12_next 45 = .ok (.iconst 0, 1) := by decide +kernel
theorem dX12_next_46 : decode cX12_next 46 = .ok (.putfield 135, 3) := by decide +kernel
theorem dX12_next_49 : decode cX12_next 49 = .ok (.goto 218, 3) := by decide +kernel
theorem dX12_next_267 : decode cX12_next 267 = .ok (.return_, 1) := by decide +kernel
set_option maxRecDepth 20000 in
theorem ggX12_rules_X12_atFirst : GoodIn wsX12_rules wsX12_atFirst := goodIn_r _ [11, 5, 44, 45, 46, 47, 48, 49, 50, 51, 52, 53, 54, 55, 56, 57, 58, 59, 60, 61, 62, 63, 64, 65, 66, 67, 68, 69, 70, 71, 72, 73, 74, 75, 76, 77, 78, 79, 80, 81, 82, 83, 84, 85, 86, 87, 88] (by decide +kernel) (by decide +kernel)
set_option maxRecDepth 20000 in
theorem gX12_rules_X12_atFirst : GoodIn wsX12_rules (wsV RX12 96 RX12 yX12_atFirst wsX12_atFirst) := goodIn_app (goodIn_of _ (by decide +kernel)) ggX12_rules_X12_atFirst
set_option maxRecDepth 20000 in
theorem ggX12_rules_X12_next : GoodIn wsX12_rules wsX12_next := goodIn_r _ [15, 1, 16, 4, 3, 17, 18, 19, 10, 20, 6, 21, 22, 23, 24, 25, 26, 27, 28, 29, 30, 31, 32, 33, 34, 35, 36, 44, 45, 46, 47, 48, 49, 50, 51, 52, 53, 54, 55, 56, 57, 58, 59, 60, 61, 62, 63, 64, 65, 66, 67, 68, 69, 70, 71, 72, 73, 74, 75, 76, 77, 78, 79, 80, 81, 82, 83, 84, 85, 86, 87, 88] (by decide +kernel) (by decide +kernel)
set_option maxRecDepth 20000 in
theorem gX12_rules_X12_next : GoodIn wsX12_rules (wsV RX12 145 RX12 yX12_next wsX12_next) := goodIn_app (goodIn_of _ (by decide +kernel)) ggX12_rules_X12_next
theorem dX12_rules_0 : decode cX12_rules 0 = .ok (.aload_n 0, 1) := by decide +kernel
theorem dX12_rules_1 : decode cX12_rules 1 = .ok (.iconst 0, 1) := by decide +kernel
theorem dX12_rules_2 : decode cX12_rules 2 = .ok (.putfield 110, 3) := by decide +kernel
theorem dX12_rules_5 : decode cX12_rules 5 = .ok (.aload_n 0, 1) := by decide +kernel
theorem dX12_rules_6 : decode cX12_rules 6 = .ok (.bipush (-9), 2) := by decide +kernel
theorem dX12_rules_8 : decode cX12_rules 8 = .ok (.putfield 142, 3) := by decide +kernel
theorem dX12_rules_11 : decode cX12_rules 11 = .ok (.iconst 0, 1) := by decide +kernel
theorem dX12_rules_12 : decode cX12_rules 12 = .ok (.istore_n 1, 1) := by decide +kernel
theorem dX12_rules_13 : decode cX12_rules 13 = .ok (.iconst 0, 1) := by decide +kernel
theorem dX12_rules_14 : decode cX12_rules 14 = .ok (.istore_n 2, 1) := by decide +kernel
theorem dX12_rules_15 : decode cX12_rules 15 = .ok (.aload_n 0, 1) := by decide +kernel
theorem dX12_rules_16 : decode cX12_rules 16 = .ok (.bipush 6, 2) := by decide +kernel
theorem dX12_rules_18 : decode cX12_rules 18 = .ok (.invokevirtual 96, 3) := by decide +kernel
theorem dX12_rules_21 : decode cX12_rules 21 = .ok (.aload_n 0, 1) := by decide +kernel
theorem dX12_rules_22 : decode cX12_rules 22 = .ok (.invokevirtual 145, 3) := by decide +kernel
theorem dX12_rules_25 : decode cX12_rules 25 = .ok (.aload_n 0, 1) := by decide +kernel
theorem dX12_rules_26 : decode cX12_rules 26 = .ok (.getfield 142, 3) := by decide +kernel
theorem dX12_rules_29 : decode cX12_rules 29 = .ok (.bipush (-9), 2) := by decide +kernel
theorem dX12_rules_31 : decode cX12_rules 31 = .ok (.if_icmp .ne 119, 3) := by decide +kernel
theorem dX12_rules_34 : decode cX12_rules 34 = .ok (.aload_n 0, 1) := by decide +kernel
theorem dX12_rules_35 : decode cX12_rules 35 = .ok (.getfield 135, 3) := by decide +kernel
theorem dX12_rules_38 : decode cX12_rules 38 = .ok (.ifCond .eq 112, 3) := by decide +kernel
theorem dX12_rules_150 : decode cX12_rules 150 = .ok (.aload_n 0, 1) := by decide +kernel
theorem dX12_rules_151 : decode cX12_rules 151 = .ok (.getfield 142, 3) := by decide +kernel
theorem dX12_rules_154 : decode cX12_rules 154 = .ok (.bipush (-9), 2) := by decide +kernel
theorem dX12_rules_156 : decode cX12_rules 156 = .ok (.if_icmp .eq 11, 3) := by decide +kernel
theorem dX12_rules_167 : decode cX12_rules 167 = .ok (.iconst 0, 1) := by decide +kernel
theorem dX12_rules_168 : decode cX12_rules 168 = .ok (.istore_n 3, 1) := by decide +kernel
theorem dX12_rules_169 : decode cX12_rules 169 = .ok (.iload_n 3, 1) := by decide +kernel
theorem dX12_rules_170 : decode cX12_rules 170 = .ok (.bipush 6, 2) := by decide +kernel
theorem dX12_rules_172 : decode cX12_rules 172 = .ok (.if_icmp .ge 24, 3) := by decide +kernel
theorem dX12_rules_175 : decode cX12_rules 175 = .ok (.aload_n 0, 1) := by decide +kernel
theorem dX12_rules_176 : decode cX12_rules 176 = .ok (.getfield 7, 3) := by decide +kernel
theorem dX12_rules_179 : decode cX12_rules 179 = .ok (.iload_n 3, 1) := by decide +kernel
theorem dX12_rules_180 : decode cX12_rules 180 = .ok (.aload_n 0, 1) := by decide +kernel
theorem dX12_rules_181 : decode cX12_rules 181 = .ok (.getfield 7, 3) := by decide +kernel
theorem dX12_rules_184 : decode cX12_rules 184 = .ok (.bipush 6, 2) := by decide +kernel
theorem dX12_rules_186 : decode cX12_rules 186 = .ok (.iload_n 3, 1) := by decide +kernel
theorem dX12_rules_187 : decode cX12_rules 187 = .ok (.iadd, 1) := by decide +kernel
theorem dX12_rules_188 : decode cX12_rules 188 = .ok (.iaload, 1) := by decide +kernel
theorem dX12_rules_189 : decode cX12_rules 189 = .ok (.iastore, 1) := by decide +kernel
theorem dX12_rules_190 : decode cX12_rules 190 = .ok (.iinc 3 1, 3) := by decide +kernel
theorem dX12_rules_193 : decode cX12_rules 193 = .ok (.goto (-24), 3) := by decide +kernel
theorem dX12_rules_196 : decode cX12_rules 196 = .ok (.aload_n 0, 1) := by decide +kernel
theorem dX12_rules_197 : decode cX12_rules 197 = .ok (.iconst 0, 1) := by decide +kernel
theorem dX12_rules_198 : decode cX12_rules 198 = .ok (.putfield 104, 3) := by decide +kernel
theorem dX12_rules_201 : decode cX12_rules 201 = .ok (.iload_n 2, 1) := by decide +kernel
theorem dX12_rules_202 : decode cX12_rules 202 = .ok (.ireturn, 1) := by decide +kernel
set_option maxRecDepth 20000 in
theorem ggX12_rule_X12_in : GoodIn wsX12_rule wsX12_in := goodIn_r _ [5] (by decide +kernel) (by decide +kernel)
set_option maxRecDepth 20000 in
theorem gX12_rule_X12_in : GoodIn wsX12_rule (va_wsS RX12 100 yX12_in wsX12_in) := goodIn_app (goodIn_of _ (by decide +kernel)) ggX12_rule_X12_in
theorem dX12_rule_0 : decode cX12_rule 0 = .ok (.iload_n 1, 1) := by decide +kernel
theorem dX12_rule_1 : decode cX12_rule 1 = .ok (.iconst 0, 1) := by decide +kernel
theorem dX12_rule_2 : decode cX12_rule 2 = .ok (.iconst 5, 1) := by decide +kernel
theorem dX12_rule_3 : decode cX12_rule 3 = .ok (.invokestatic 100, 3) := by decide +kernel
theorem dX12_rule_6 : decode cX12_rule 6 = .ok (.ifCond .eq 12, 3) := by decide +kernel
theorem dX12_rule_9 : decode cX12_rule 9 = .ok (.aload_n 0, 1) := by decide +kernel
theorem dX12_rule_10 : decode cX12_rule 10 = .ok (.getfield 7, 3) := by decide +kernel
theorem dX12_rule_13 : decode cX12_rule 13 = .ok (.iload_n 1, 1) := by decide +kernel
theorem dX12_rule_14 : decode cX12_rule 14 = .ok (.iaload, 1) := by decide +kernel
theorem dX12_rule_15 : decode cX12_rule 15 = .ok (.goto 4, 3) := by decide +kernel
theorem dX12_rule_18 : decode cX12_rule 18 = .ok (.iconst (-1), 1) := by decide +kernel
theorem dX12_rule_19 : decode cX12_rule 19 = .ok (.ireturn, 1) := by decide +kernel
theorem dX12_addRow_0 : decode cX12_addRow 0 = .ok (.aload_n 0, 1) := by decide +kernel
theorem dX12_addRow_1 : decode cX12_addRow 1 = .ok (.getfield 17, 3) := by decide +kernel
theorem dX12_addRow_4 : decode cX12_addRow 4 = .ok (.iconst 4, 1) := by decide +kernel
theorem dX12_addRow_5 : decode cX12_addRow 5 = .ok (.aload_n 0, 1) := by decide +kernel
theorem dX12_addRow_6 : decode cX12_addRow 6 = .ok (.getfield 156, 3) := by decide +kernel
theorem dX12_addRow_9 : decode cX12_addRow 9 = .ok (.imul, 1) := by decide +kernel
theorem dX12_addRow_10 : decode cX12_addRow 10 = .ok (.iload_n 1, 1) := by decide +kernel
theorem dX12_addRow_11 : decode cX12_addRow 11 = .ok (.iastore, 1) := by decide +kernel
theorem dX12_addRow_12 : decode cX12_addRow 12 = .ok (.aload_n 0, 1) := by decide +kernel
theorem dX12_addRow_13 : decode cX12_addRow 13 = .ok (.getfield 17, 3) := by decide +kernel
theorem dX12_addRow_16 : decode cX12_addRow 16 = .ok (.iconst 4, 1) := by decide +kernel
theorem dX12_addRow_17 : decode cX12_addRow 17 = .ok (.aload_n 0, 1) := by decide +kernel
theorem dX12_addRow_18 : decode cX12_addRow 18 = .ok (.getfield 156, 3) := by decide +kernel
theorem dX12_addRow_21 : decode cX12_addRow 21 = .ok (.imul, 1) := by decide +kernel
theorem dX12_addRow_22 : decode cX12_addRow 22 = .ok (.iconst 1, 1) := by decide +kernel
theorem dX12_addRow_23 : decode cX12_addRow 23 = .ok (.iadd, 1) := by decide +kernel
theorem dX12_addRow_24 : decode cX12_addRow 24 = .ok (.iload_n 2, 1) := by decide +kernel
theorem dX12_addRow_25 : decode cX12_addRow 25 = .ok (.iastore, 1) := by decide +kernel
theorem dX12_addRow_26 : decode cX12_addRow 26 = .ok (.aload_n 0, 1) := by decide +kernel
theorem dX12_addRow_27 : decode cX12_addRow 27 = .ok (.getfield 17, 3) := by decide +kernel
theorem dX12_addRow_30 : decode cX12_addRow 30 = .ok (.iconst 4, 1) := by decide +kernel
theorem dX12_addRow_31 : decode cX12_addRow 31 = .ok (.aload_n 0, 1) := by decide +kernel
theorem dX12_addRow_32 : decode cX12_addRow 32 = .ok (.getfield 156, 3) := by decide +kernel
theorem dX12_addRow_35 : decode cX12_addRow 35 = .ok (.imul, 1) := by decide +kernel
theorem dX12_addRow_36 : decode cX12_addRow 36 = .ok (.iconst 2, 1) := by decide +kernel
theorem dX12_addRow_37 : decode cX12_addRow 37 = .ok (.iadd, 1) := by decide +kernel
theorem dX12_addRow_38 : decode cX12_addRow 38 = .ok (.iload_n 3, 1) := by decide +kernel
theorem dX12_addRow_39 : decode cX12_addRow 39 = .ok (.iastore, 1) := by decide +kernel
theorem dX12_addRow_40 : decode cX12_addRow 40 = .ok (.aload_n 0, 1) := by decide +kernel
theorem dX12_addRow_41 : decode cX12_addRow 41 = .ok (.getfield 17, 3) := by decide +kernel
theorem dX12_addRow_44 : decode cX12_addRow 44 = .ok (.iconst 4, 1) := by decide +kernel
theorem dX12_addRow_45 : decode cX12_addRow 45 = .ok (.aload_n 0, 1) := by decide +kernel
theorem dX12_addRow_46 : decode cX12_addRow 46 = .ok (.getfield 156, 3) := by decide +kernel
theorem dX12_addRow_49 : decode cX12_addRow 49 = .ok (.imul, 1) := by decide +kernel
theorem dX12_addRow_50 : decode cX12_addRow 50 = .ok (.iconst 3, 1) := by decide +kernel
theorem dX12_addRow_51 : decode cX12_addRow 51 = .ok (.iadd, 1) := by decide +kernel
theorem dX12_addRow_52 : decode cX12_addRow 52 = .ok (.iload 4, 2) := by decide +kernel
theorem dX12_addRow_54 : decode cX12_addRow 54 = .ok (.iastore, 1) := by decide +kernel
theorem dX12_addRow_55 : decode cX12_addRow 55 = .ok (.aload_n 0, 1) := by decide +kernel
theorem dX12_addRow_56 : decode cX12_addRow 56 = .ok (.getfield 20, 3) := by decide +kernel
theorem dX12_addRow_59 : decode cX12_addRow 59 = .ok (.aload_n 0, 1) := by decide +kernel
theorem dX12_addRow_60 : decode cX12_addRow 60 = .ok (.getfield 156, 3) := by decide +kernel
theorem dX12_addRow_63 : decode cX12_addRow 63 = .ok (.iload 5, 2) := by decide +kernel
theorem dX12_addRow_65 : decode cX12_addRow 65 = .ok (.bastore, 1) := by decide +kernel
theorem dX12_addRow_66 : decode cX12_addRow 66 = .ok (.aload_n 0, 1) := by decide +kernel
theorem dX12_addRow_67 : decode cX12_addRow 67 = .ok (.getfield 24, 3) := by decide +kernel
theorem dX12_addRow_70 : decode cX12_addRow 70 = .ok (.aload_n 0, 1) := by decide +kernel
theorem dX12_addRow_71 : decode cX12_addRow 71 = .ok (.getfield 156, 3) := by decide +kernel
theorem dX12_addRow_74 : decode cX12_addRow 74 = .ok (.iconst 0, 1) := by decide +kernel
theorem dX12_addRow_75 : decode cX12_addRow 75 = .ok (.bastore, 1) := by decide +kernel
theorem dX12_addRow_76 : decode cX12_addRow 76 = .ok (.aload_n 0, 1) := by decide +kernel
theorem dX12_addRow_77 : decode cX12_addRow 77 = .ok (.getfield 27, 3) := by decide +kernel
theorem dX12_addRow_80 : decode cX12_addRow 80 = .ok (.aload_n 0, 1) := by decide +kernel
theorem dX12_addRow_81 : decode cX12_addRow 81 = .ok (.getfield 156, 3) := by decide +kernel
theorem dX12_addRow_84 : decode cX12_addRow 84 = .ok (.iconst 0, 1) := by decide +kernel
theorem dX12_addRow_85 : decode cX12_addRow 85 = .ok (.iastore, 1) := by decide +kernel
theorem dX12_addRow_86 : decode cX12_addRow 86 = .ok (.aload_n 0, 1) := by decide +kernel
theorem dX12_addRow_87 : decode cX12_addRow 87 = .ok (.dup, 1) := by decide +kernel
theorem dX12_addRow_88 : decode cX12_addRow 88 = .ok (.getfield 156, 3) := by decide +kernel
theorem dX12_addRow_91 : decode cX12_addRow 91 = .ok (.iconst 1, 1) := by decide +kernel
theorem dX12_addRow_92 : decode cX12_addRow 92 = .ok (.iadd, 1) := by decide +kernel
theorem dX12_addRow_93 : decode cX12_addRow 93 = .ok (.putfield 156, 3) := by decide +kernel
theorem dX12_addRow_96 : decode cX12_addRow 96 = .ok (.return_, 1) := by decide +kernel
set_option maxRecDepth 20000 in
theorem ggX12_row_X12_in : GoodIn wsX12_row wsX12_in := goodIn_r _ [5] (by decide +kernel) (by decide +kernel)
set_option maxRecDepth 20000 in
theorem gX12_row_X12_in : GoodIn wsX12_row (va_wsS RX12 100 yX12_in wsX12_in) := goodIn_app (goodIn_of _ (by decide +kernel)) ggX12_row_X12_in
set_option maxRecDepth 20000 in
theorem ggX12_row_X12_addRow : GoodIn wsX12_row wsX12_addRow := goodIn_r _ [9, 10, 1, 11, 12, 13, 14, 15, 16, 17, 18, 19, 20, 21, 22, 23, 24, 25, 26, 27, 28, 29, 30, 31, 32, 33, 34, 35, 36, 37, 38, 39, 40, 41, 42, 43, 44, 45, 46, 47, 48, 49, 50, 51, 52, 53, 54, 55, 56, 57, 58] (by decide +kernel) (by decide +kernel)
set_option maxRecDepth 20000 in
theorem gX12_row_X12_addRow : GoodIn wsX12_row (wsV RX12 159 RX12 yX12_addRow wsX12_addRow) := goodIn_app (goodIn_of _ (by decide +kernel)) ggX12_row_X12_addRow
theorem dX12_row_0 : decode cX12_row 0 = .ok (.iload_n 1, 1) := by decide +kernel
theorem dX12_row_1 : decode cX12_row 1 = .ok (.iconst 0, 1) := by decide +kernel
theorem dX12_row_2 : decode cX12_row 2 = .ok (.bipush 99, 2) := by decide +kernel
theorem dX12_row_4 : decode cX12_row 4 = .ok (.invokestatic 100, 3) := by decide +kernel
theorem dX12_row_7 : decode cX12_row 7 = .ok (.ifCond .eq 34, 3) := by decide +kernel
theorem dX12_row_10 : decode cX12_row 10 = .ok (.iload_n 2, 1) := by decide +kernel
theorem dX12_row_11 : decode cX12_row 11 = .ok (.iconst 0, 1) := by decide +kernel
theorem dX12_row_12 : decode cX12_row 12 = .ok (.bipush 99, 2) := by decide +kernel
theorem dX12_row_14 : decode cX12_row 14 = .ok (.invokestatic 100, 3) := by decide +kernel
theorem dX12_row_17 : decode cX12_row 17 = .ok (.ifCond .eq 24, 3) := by decide +kernel
theorem dX12_row_20 : decode cX12_row 20 = .ok (.iload_n 3, 1) := by decide +kernel
theorem dX12_row_21 : decode cX12_row 21 = .ok (.iconst 0, 1) := by decide +kernel
theorem dX12_row_22 : decode cX12_row 22 = .ok (.bipush 99, 2) := by decide +kernel
theorem dX12_row_24 : decode cX12_row 24 = .ok (.invokestatic 100, 3) := by decide +kernel
theorem dX12_row_27 : decode cX12_row 27 = .ok (.ifCond .eq 14, 3) := by decide +kernel
theorem dX12_row_30 : decode cX12_row 30 = .ok (.iload 4, 2) := by decide +kernel
theorem dX12_row_32 : decode cX12_row 32 = .ok (.iconst 0, 1) := by decide +kernel
theorem dX12_row_33 : decode cX12_row 33 = .ok (.bipush 99, 2) := by decide +kernel
theorem dX12_row_35 : decode cX12_row 35 = .ok (.invokestatic 100, 3) := by decide +kernel
theorem dX12_row_38 : decode cX12_row 38 = .ok (.ifCond .ne 5, 3) := by decide +kernel
theorem dX12_row_41 : decode cX12_row 41 = .ok (.iconst (-1), 1) := by decide +kernel
theorem dX12_row_42 : decode cX12_row 42 = .ok (.ireturn, 1) := by decide +kernel
theorem dX12_row_43 : decode cX12_row 43 = .ok (.aload_n 0, 1) := by decide +kernel
theorem dX12_row_44 : decode cX12_row 44 = .ok (.getfield 156, 3) := by decide +kernel
theorem dX12_row_47 : decode cX12_row 47 = .ok (.bipush 48, 2) := by decide +kernel
theorem dX12_row_49 : decode cX12_row 49 = .ok (.if_icmp .ne 6, 3) := by decide +kernel
theorem dX12_row_55 : decode cX12_row 55 = .ok (.aload_n 0, 1) := by decide +kernel
theorem dX12_row_56 : decode cX12_row 56 = .ok (.iload_n 1, 1) := by decide +kernel
theorem dX12_row_57 : decode cX12_row 57 = .ok (.iload_n 2, 1) := by decide +kernel
theorem dX12_row_58 : decode cX12_row 58 = .ok (.iload_n 3, 1) := by decide +kernel
theorem dX12_row_59 : decode cX12_row 59 = .ok (.iload 4, 2) := by decide +kernel
theorem dX12_row_61 : decode cX12_row 61 = .ok (.iconst 0, 1) := by decide +kernel
theorem dX12_row_62 : decode cX12_row 62 = .ok (.invokevirtual 159, 3) := by decide +kernel
theorem dX12_row_65 : decode cX12_row 65 = .ok (.aload_n 0, 1) := by decide +kernel
theorem dX12_row_66 : decode cX12_row 66 = .ok (.getfield 156, 3) := by decide +kernel
theorem dX12_row_69 : decode cX12_row 69 = .ok (.iconst 1, 1) := by decide +kernel
theorem dX12_row_70 : decode cX12_row 70 = .ok (.isub, 1) := by decide +kernel
theorem dX12_row_71 : decode cX12_row 71 = .ok (.ireturn, 1) := by decide +kernel
set_option maxRecDepth 20000 in
theorem ggX12_deaf_X12_in : GoodIn wsX12_deaf wsX12_in := goodIn_r _ [5] (by decide +kernel) (by decide +kernel)
set_option maxRecDepth 20000 in
theorem gX12_deaf_X12_in : GoodIn wsX12_deaf (va_wsS RX12 100 yX12_in wsX12_in) := goodIn_app (goodIn_of _ (by decide +kernel)) ggX12_deaf_X12_in
set_option maxRecDepth 20000 in
theorem ggX12_deaf_X12_addRow : GoodIn wsX12_deaf wsX12_addRow := goodIn_r _ [9, 10, 1, 11, 12, 13, 14, 15, 16, 17, 18, 19, 20, 21, 22, 23, 24, 25, 26, 27, 28, 29, 30, 31, 32, 33, 34, 35, 36, 37, 38, 39, 40, 41, 42, 43, 44, 45, 46, 47, 48, 49, 50, 51, 52, 53, 54, 55, 56, 57, 58] (by decide +kernel) (by decide +kernel)
set_option maxRecDepth 20000 in
theorem gX12_deaf_X12_addRow : GoodIn wsX12_deaf (wsV RX12 159 RX12 yX12_addRow wsX12_addRow) := goodIn_app (goodIn_of _ (by decide +kernel)) ggX12_deaf_X12_addRow
theorem dX12_deaf_0 : decode cX12_deaf 0 = .ok (.iload_n 1, 1) := by decide +kernel
theorem dX12_deaf_1 : decode cX12_deaf 1 = .ok (.iconst 1, 1) := by decide +kernel
theorem dX12_deaf_2 : decode cX12_deaf 2 = .ok (.bipush 9, 2) := by decide +kernel
theorem dX12_deaf_4 : decode cX12_deaf 4 = .ok (.invokestatic 100, 3) := by decide +kernel
theorem dX12_deaf_7 : decode cX12_deaf 7 = .ok (.ifCond .ne 5, 3) := by decide +kernel
theorem dX12_deaf_10 : decode cX12_deaf 10 = .ok (.iconst (-1), 1) := by decide +kernel
theorem dX12_deaf_11 : decode cX12_deaf 11 = .ok (.ireturn, 1) := by decide +kernel
theorem dX12_deaf_12 : decode cX12_deaf 12 = .ok (.aload_n 0, 1) := by decide +kernel
theorem dX12_deaf_13 : decode cX12_deaf 13 = .ok (.getfield 156, 3) := by decide +kernel
theorem dX12_deaf_16 : decode cX12_deaf 16 = .ok (.iload_n 1, 1) := by decide +kernel
theorem dX12_deaf_17 : decode cX12_deaf 17 = .ok (.iadd, 1) := by decide +kernel
theorem dX12_deaf_18 : decode cX12_deaf 18 = .ok (.bipush 48, 2) := by decide +kernel
theorem dX12_deaf_20 : decode cX12_deaf 20 = .ok (.if_icmp .le 6, 3) := by decide +kernel
theorem dX12_deaf_26 : decode cX12_deaf 26 = .ok (.iconst 0, 1) := by decide +kernel
theorem dX12_deaf_27 : decode cX12_deaf 27 = .ok (.istore_n 2, 1) := by decide +kernel
theorem dX12_deaf_28 : decode cX12_deaf 28 = .ok (.iload_n 2, 1) := by decide +kernel
theorem dX12_deaf_29 : decode cX12_deaf 29 = .ok (.iload_n 1, 1) := by decide +kernel
theorem dX12_deaf_30 : decode cX12_deaf 30 = .ok (.if_icmp .ge 18, 3) := by decide +kernel
theorem dX12_deaf_33 : decode cX12_deaf 33 = .ok (.aload_n 0, 1) := by decide +kernel
theorem dX12_deaf_34 : decode cX12_deaf 34 = .ok (.iconst 0, 1) := by decide +kernel
theorem dX12_deaf_35 : decode cX12_deaf 35 = .ok (.iconst 0, 1) := by decide +kernel
theorem dX12_deaf_36 : decode cX12_deaf 36 = .ok (.iconst 0, 1) := by decide +kernel
theorem dX12_deaf_37 : decode cX12_deaf 37 = .ok (.iconst 0, 1) := by decide +kernel
theorem dX12_deaf_38 : decode cX12_deaf 38 = .ok (.iconst 1, 1) := by decide +kernel
theorem dX12_deaf_39 : decode cX12_deaf 39 = .ok (.invokevirtual 159, 3) := by decide +kernel
theorem dX12_deaf_42 : decode cX12_deaf 42 = .ok (.iinc 2 1, 3) := by decide +kernel
theorem dX12_deaf_45 : decode cX12_deaf 45 = .ok (.goto (-17), 3) := by decide +kernel
theorem dX12_deaf_48 : decode cX12_deaf 48 = .ok (.aload_n 0, 1) := by decide +kernel
theorem dX12_deaf_49 : decode cX12_deaf 49 = .ok (.getfield 156, 3) := by decide +kernel
theorem dX12_deaf_52 : decode cX12_deaf 52 = .ok (.ireturn, 1) := by decide +kernel
set_option maxRecDepth 20000 in
theorem ggX12_isRow_X12_in : GoodIn wsX12_isRow wsX12_in := goodIn_r _ [5] (by decide +kernel) (by decide +kernel)
set_option maxRecDepth 20000 in
theorem gX12_isRow_X12_in : GoodIn wsX12_isRow (va_wsS RX12 100 yX12_in wsX12_in) := goodIn_app (goodIn_of _ (by decide +kernel)) ggX12_isRow_X12_in
theorem dX12_isRow_0 : decode cX12_isRow 0 = .ok (.iload_n 1, 1) := by decide +kernel
theorem dX12_isRow_1 : decode cX12_isRow 1 = .ok (.iconst 0, 1) := by decide +kernel
theorem dX12_isRow_2 : decode cX12_isRow 2 = .ok (.aload_n 0, 1) := by decide +kernel
theorem dX12_isRow_3 : decode cX12_isRow 3 = .ok (.getfield 156, 3) := by decide +kernel
theorem dX12_isRow_6 : decode cX12_isRow 6 = .ok (.iconst 1, 1) := by decide +kernel
theorem dX12_isRow_7 : decode cX12_isRow 7 = .ok (.isub, 1) := by decide +kernel
theorem dX12_isRow_8 : decode cX12_isRow 8 = .ok (.invokestatic 100, 3) := by decide +kernel
theorem dX12_isRow_11 : decode cX12_isRow 11 = .ok (.ireturn, 1) := by decide +kernel
set_option maxRecDepth 20000 in
theorem ggX12_areRows_X12_isRow : GoodIn wsX12_areRows wsX12_isRow := goodIn_r _ [6, 1, 7, 8, 5, 9, 10, 11, 12, 13, 14, 15, 16, 17, 18, 19, 20, 21, 22, 23, 24, 25, 26, 27, 28, 29, 30, 31, 32, 33, 34, 35, 36, 37, 38, 39, 40, 41, 42, 43, 44, 45, 46, 47, 48, 49, 50, 51, 52, 53, 54] (by decide +kernel) (by decide +kernel)
set_option maxRecDepth 20000 in
theorem gX12_areRows_X12_isRow : GoodIn wsX12_areRows (wsV RX12 163 RX12 yX12_isRow wsX12_isRow) := goodIn_app (goodIn_of _ (by decide +kernel)) ggX12_areRows_X12_isRow
theorem dX12_areRows_0 : decode cX12_areRows 0 = .ok (.aload_n 0, 1) := by decide +kernel
theorem dX12_areRows_1 : decode cX12_areRows 1 = .ok (.iload_n 1, 1) := by decide +kernel
theorem dX12_areRows_2 : decode cX12_areRows 2 = .ok (.invokevirtual 163, 3) := by decide +kernel
theorem dX12_areRows_5 : decode cX12_areRows 5 = .ok (.ifCond .eq 21, 3) := by decide +kernel
theorem dX12_areRows_26 : decode cX12_areRows 26 = .ok (.iconst 0, 1) := by decide +kernel
theorem dX12_areRows_27 : decode cX12_areRows 27 = .ok (.ireturn, 1) := by decide +kernel
set_option maxRecDepth 20000 in
theorem ggX12_out_X12_areRows : GoodIn wsX12_out wsX12_areRows := goodIn_r _ [6, 7, 8, 9, 10, 5, 11, 12, 13, 14, 15, 16, 17, 18, 19, 20, 21, 22, 23, 24, 25, 26, 27, 28, 29, 30, 31, 32, 33, 34, 35, 36, 37, 38, 39, 40, 41, 42, 43, 44, 45, 46, 47, 48, 49, 50, 51, 52, 53, 54, 55, 56, 57, 58, 59] (by decide +kernel) (by decide +kernel)
set_option maxRecDepth 20000 in
theorem gX12_out_X12_areRows : GoodIn wsX12_out (wsV RX12 167 RX12 yX12_areRows wsX12_areRows) := goodIn_app (goodIn_of _ (by decide +kernel)) ggX12_out_X12_areRows
theorem dX12_out_0 : decode cX12_out 0 = .ok (.aload_n 0, 1) := by decide +kernel
theorem dX12_out_1 : decode cX12_out 1 = .ok (.iload_n 1, 1) := by decide +kernel
theorem dX12_out_2 : decode cX12_out 2 = .ok (.iload_n 2, 1) := by decide +kernel
theorem dX12_out_3 : decode cX12_out 3 = .ok (.invokevirtual 167, 3) := by decide +kernel
theorem dX12_out_6 : decode cX12_out 6 = .ok (.ifCond .eq 12, 3) := by decide +kernel
theorem dX12_out_18 : decode cX12_out 18 = .ok (.iconst (-1), 1) := by decide +kernel
theorem dX12_out_19 : decode cX12_out 19 = .ok (.ireturn, 1) := by decide +kernel
theorem dX12_hush_0 : decode cX12_hush 0 = .ok (.aload_n 0, 1) := by decide +kernel
theorem dX12_hush_1 : decode cX12_hush 1 = .ok (.getfield 156, 3) := by decide +kernel
theorem dX12_hush_4 : decode cX12_hush 4 = .ok (.istore_n 1, 1) := by decide +kernel
theorem dX12_hush_5 : decode cX12_hush 5 = .ok (.aload_n 0, 1) := by decide +kernel
theorem dX12_hush_6 : decode cX12_hush 6 = .ok (.iconst 0, 1) := by decide +kernel
theorem dX12_hush_7 : decode cX12_hush 7 = .ok (.putfield 156, 3) := by decide +kernel
theorem dX12_hush_10 : decode cX12_hush 10 = .ok (.aload_n 0, 1) := by decide +kernel
theorem dX12_hush_11 : decode cX12_hush 11 = .ok (.iconst 0, 1) := by decide +kernel
theorem dX12_hush_12 : decode cX12_hush 12 = .ok (.putfield 171, 3) := by decide +kernel
theorem dX12_hush_15 : decode cX12_hush 15 = .ok (.aload_n 0, 1) := by decide +kernel
theorem dX12_hush_16 : decode cX12_hush 16 = .ok (.iconst 0, 1) := by decide +kernel
theorem dX12_hush_17 : decode cX12_hush 17 = .ok (.putfield 174, 3) := by decide +kernel
theorem dX12_hush_20 : decode cX12_hush 20 = .ok (.iload_n 1, 1) := by decide +kernel
theorem dX12_hush_21 : decode cX12_hush 21 = .ok (.ireturn, 1) := by decide +kernel
theorem dX12_findPieces_0 : decode cX12_findPieces 0 = .ok (.aload_n 0, 1) := by decide +kernel
theorem dX12_findPieces_1 : decode cX12_findPieces 1 = .ok (.iconst 0, 1) := by decide +kernel
theorem dX12_findPieces_2 : decode cX12_findPieces 2 = .ok (.putfield 191, 3) := by decide +kernel
theorem dX12_findPieces_5 : decode cX12_findPieces 5 = .ok (.aload_n 0, 1) := by decide +kernel
theorem dX12_findPieces_6 : decode cX12_findPieces 6 = .ok (.iconst 0, 1) := by decide +kernel
theorem dX12_findPieces_7 : decode cX12_findPieces 7 = .ok (.putfield 194, 3) := by decide +kernel
theorem dX12_findPieces_10 : decode cX12_findPieces 10 = .ok (.aload_n 0, 1) := by decide +kernel
theorem dX12_findPieces_11 : decode cX12_findPieces 11 = .ok (.iconst 0, 1) := by decide +kernel
theorem dX12_findPieces_12 : decode cX12_findPieces 12 = .ok (.putfield 188, 3) := by decide +kernel
theorem dX12_findPieces_15 : decode cX12_findPieces 15 = .ok (.iconst 0, 1) := by decide +kernel
theorem dX12_findPieces_16 : decode cX12_findPieces 16 = .ok (.istore_n 1, 1) := by decide +kernel
theorem dX12_findPieces_17 : decode cX12_findPieces 17 = .ok (.iload_n 1, 1) := by decide +kernel
theorem dX12_findPieces_18 : decode cX12_findPieces 18 = .ok (.aload_n 0, 1) := by decide +kernel
theorem dX12_findPieces_19 : decode cX12_findPieces 19 = .ok (.getfield 156, 3) := by decide +kernel
theorem dX12_findPieces_22 : decode cX12_findPieces 22 = .ok (.if_icmp .ge 74, 3) := by decide +kernel
theorem dX12_findPieces_96 : decode cX12_findPieces 96 = .ok (.return_, 1) := by decide +kernel
set_option maxRecDepth 20000 in
theorem ggX12_pieces_X12_in : GoodIn wsX12_pieces wsX12_in := goodIn_r _ [8] (by decide +kernel) (by decide +kernel)
set_option maxRecDepth 20000 in
theorem gX12_pieces_X12_in : GoodIn wsX12_pieces (va_wsS RX12 100 yX12_in wsX12_in) := goodIn_app (goodIn_of _ (by decide +kernel)) ggX12_pieces_X12_in
set_option maxRecDepth 20000 in
theorem ggX12_pieces_X12_findPieces : GoodIn wsX12_pieces wsX12_findPieces := goodIn_r _ [12, 2, 3, 4, 1, 13, 14, 15, 16, 7, 17, 18, 19, 20, 21, 22, 23, 24, 25, 26, 27, 28, 29, 30, 31, 32, 33, 34, 35, 36, 37, 38, 5, 6, 8, 39, 40, 41, 42, 43, 44, 45, 46, 47, 48, 49, 50, 51, 52, 53, 54, 55, 56, 57, 58, 59, 60, 61, 62, 63, 64, 65, 66, 67, 68, 69, 70, 71, 72, 73, 74, 75, 76, 77, 78, 79, 80, 81, 82, 83, 84, 85, 86, 87, 88] (by decide +kernel) (by decide +kernel)
set_option maxRecDepth 20000 in
theorem gX12_pieces_X12_findPieces : GoodIn wsX12_pieces (wsV RX12 203 RX12 yX12_findPieces wsX12_findPieces) := goodIn_app (goodIn_of _ (by decide +kernel)) ggX12_pieces_X12_findPieces
theorem dX12_pieces_0 : decode cX12_pieces 0 = .ok (.iload_n 1, 1) := by decide +kernel
theorem dX12_pieces_1 : decode cX12_pieces 1 = .ok (.iconst 0, 1) := by decide +kernel
theorem dX12_pieces_2 : decode cX12_pieces 2 = .ok (.iconst 3, 1) := by decide +kernel
theorem dX12_pieces_3 : decode cX12_pieces 3 = .ok (.invokestatic 100, 3) := by decide +kernel
theorem dX12_pieces_6 : decode cX12_pieces 6 = .ok (.ifCond .ne 5, 3) := by decide +kernel
theorem dX12_pieces_9 : decode cX12_pieces 9 = .ok (.iconst (-1), 1) := by decide +kernel
theorem dX12_pieces_10 : decode cX12_pieces 10 = .ok (.ireturn, 1) := by decide +kernel
theorem dX12_pieces_11 : decode cX12_pieces 11 = .ok (.aload_n 0, 1) := by decide +kernel
theorem dX12_pieces_12 : decode cX12_pieces 12 = .ok (.invokevirtual 203, 3) := by decide +kernel
theorem dX12_pieces_15 : decode cX12_pieces 15 = .ok (.iconst 0, 1) := by decide +kernel
theorem dX12_pieces_16 : decode cX12_pieces 16 = .ok (.istore_n 2, 1) := by decide +kernel
theorem dX12_pieces_17 : decode cX12_pieces 17 = .ok (.iconst 0, 1) := by decide +kernel
theorem dX12_pieces_18 : decode cX12_pieces 18 = .ok (.istore_n 3, 1) := by decide +kernel
theorem dX12_pieces_19 : decode cX12_pieces 19 = .ok (.iload_n 3, 1) := by decide +kernel
theorem dX12_pieces_20 : decode cX12_pieces 20 = .ok (.aload_n 0, 1) := by decide +kernel
theorem dX12_pieces_21 : decode cX12_pieces 21 = .ok (.getfield 156, 3) := by decide +kernel
theorem dX12_pieces_24 : decode cX12_pieces 24 = .ok (.if_icmp .ge 25, 3) := by decide +kernel
theorem dX12_pieces_49 : decode cX12_pieces 49 = .ok (.iload_n 1, 1) := by decide +kernel
theorem dX12_pieces_50 : decode cX12_pieces 50 = .ok (.ifCond .ne 10, 3) := by decide +kernel
theorem dX12_pieces_53 : decode cX12_pieces 53 = .ok (.aload_n 0, 1) := by decide +kernel
theorem dX12_pieces_54 : decode cX12_pieces 54 = .ok (.getfield 191, 3) := by decide +kernel
theorem dX12_pieces_57 : decode cX12_pieces 57 = .ok (.goto 28, 3) := by decide +kernel
theorem dX12_pieces_60 : decode cX12_pieces 60 = .ok (.iload_n 1, 1) := by decide +kernel
theorem dX12_pieces_61 : decode cX12_pieces 61 = .ok (.iconst 1, 1) := by decide +kernel
theorem dX12_pieces_62 : decode cX12_pieces 62 = .ok (.if_icmp .ne 10, 3) := by decide +kernel
theorem dX12_pieces_65 : decode cX12_pieces 65 = .ok (.aload_n 0, 1) := by decide +kernel
theorem dX12_pieces_66 : decode cX12_pieces 66 = .ok (.getfield 194, 3) := by decide +kernel
theorem dX12_pieces_69 : decode cX12_pieces 69 = .ok (.goto 16, 3) := by decide +kernel
theorem dX12_pieces_72 : decode cX12_pieces 72 = .ok (.iload_n 1, 1) := by decide +kernel
theorem dX12_pieces_73 : decode cX12_pieces 73 = .ok (.iconst 2, 1) := by decide +kernel
theorem dX12_pieces_74 : decode cX12_pieces 74 = .ok (.if_icmp .ne 10, 3) := by decide +kernel
theorem dX12_pieces_77 : decode cX12_pieces 77 = .ok (.aload_n 0, 1) := by decide +kernel
theorem dX12_pieces_78 : decode cX12_pieces 78 = .ok (.getfield 188, 3) := by decide +kernel
theorem dX12_pieces_81 : decode cX12_pieces 81 = .ok (.goto 4, 3) := by decide +kernel
theorem dX12_pieces_84 : decode cX12_pieces 84 = .ok (.iload_n 2, 1) := by decide +kernel
theorem dX12_pieces_85 : decode cX12_pieces 85 = .ok (.ireturn, 1) := by decide +kernel
set_option maxRecDepth 20000 in
theorem ggX12_isPiece_X12_in : GoodIn wsX12_isPiece wsX12_in := goodIn_r _ [5] (by decide +kernel) (by decide +kernel)
set_option maxRecDepth 20000 in
theorem gX12_isPiece_X12_in : GoodIn wsX12_isPiece (va_wsS RX12 100 yX12_in wsX12_in) := goodIn_app (goodIn_of _ (by decide +kernel)) ggX12_isPiece_X12_in
theorem dX12_isPiece_0 : decode cX12_isPiece 0 = .ok (.iload_n 1, 1) := by decide +kernel
theorem dX12_isPiece_1 : decode cX12_isPiece 1 = .ok (.iconst 0, 1) := by decide +kernel
theorem dX12_isPiece_2 : decode cX12_isPiece 2 = .ok (.aload_n 0, 1) := by decide +kernel
theorem dX12_isPiece_3 : decode cX12_isPiece 3 = .ok (.getfield 191, 3) := by decide +kernel
theorem dX12_isPiece_6 : decode cX12_isPiece 6 = .ok (.iconst 1, 1) := by decide +kernel
theorem dX12_isPiece_7 : decode cX12_isPiece 7 = .ok (.isub, 1) := by decide +kernel
theorem dX12_isPiece_8 : decode cX12_isPiece 8 = .ok (.invokestatic 100, 3) := by decide +kernel
theorem dX12_isPiece_11 : decode cX12_isPiece 11 = .ok (.ireturn, 1) := by decide +kernel
set_option maxRecDepth 20000 in
theorem ggX12_piece_X12_findPieces : GoodIn wsX12_piece wsX12_findPieces := goodIn_r _ [9, 10, 11, 12, 13, 14, 15, 16, 17, 8, 18, 19, 20, 21, 22, 23, 24, 25, 26, 27, 28, 29, 1, 2, 3, 4, 30, 31, 32, 33, 34, 35, 36, 37, 38, 39, 40, 41, 42, 43, 48, 49, 50, 51, 52, 53, 54, 55, 56, 57, 58, 59, 60, 61, 62, 63, 64, 65, 66, 67, 68, 69, 70, 71, 72, 73, 74, 75, 76, 77, 78, 79, 80, 81, 82, 83, 84, 85, 86, 87, 88, 89, 90, 91, 92] (by decide +kernel) (by decide +kernel)
set_option maxRecDepth 20000 in
theorem gX12_piece_X12_findPieces : GoodIn wsX12_piece (wsV RX12 203 RX12 yX12_findPieces wsX12_findPieces) := goodIn_app (goodIn_of _ (by decide +kernel)) ggX12_piece_X12_findPieces
set_option maxRecDepth 20000 in
theorem ggX12_piece_X12_isPiece : GoodIn wsX12_piece wsX12_isPiece := goodIn_r _ [47, 10, 36, 37, 8, 38, 48, 49, 50, 51, 52, 53, 54, 55, 56, 57, 58, 59, 60, 61, 62, 63, 64, 65, 66, 67, 68, 69, 70, 71, 72, 73, 74, 75, 76, 77, 78, 79, 80, 81, 82, 83, 84, 85, 86, 87, 88, 89, 90, 91, 92] (by decide +kernel) (by decide +kernel)
set_option maxRecDepth 20000 in
theorem gX12_piece_X12_isPiece : GoodIn wsX12_piece (wsV RX12 206 RX12 yX12_isPiece wsX12_isPiece) := goodIn_app (goodIn_of _ (by decide +kernel)) ggX12_piece_X12_isPiece
theorem dX12_piece_0 : decode cX12_piece 0 = .ok (.aload_n 0, 1) := by decide +kernel
theorem dX12_piece_1 : decode cX12_piece 1 = .ok (.invokevirtual 203, 3) := by decide +kernel
theorem dX12_piece_4 : decode cX12_piece 4 = .ok (.aload_n 0, 1) := by decide +kernel
theorem dX12_piece_5 : decode cX12_piece 5 = .ok (.iload_n 1, 1) := by decide +kernel
theorem dX12_piece_6 : decode cX12_piece 6 = .ok (.invokevirtual 206, 3) := by decide +kernel
theorem dX12_piece_9 : decode cX12_piece 9 = .ok (.ifCond .eq 13, 3) := by decide +kernel
theorem dX12_piece_22 : decode cX12_piece 22 = .ok (.iconst (-1), 1) := by decide +kernel
theorem dX12_piece_23 : decode cX12_piece 23 = .ok (.ireturn, 1) := by decide +kernel
set_option maxRecDepth 20000 in
theorem ggX12_of_X12_isRow : GoodIn wsX12_of wsX12_isRow := goodIn_r _ [6, 7, 8, 9, 5, 10, 48, 49, 50, 51, 52, 53, 54, 55, 56, 57, 58, 59, 60, 61, 62, 63, 64, 65, 66, 67, 68, 69, 70, 71, 72, 73, 74, 75, 76, 77, 78, 79, 80, 81, 82, 83, 84, 85, 86, 87, 88, 89, 90, 91, 92] (by decide +kernel) (by decide +kernel)
set_option maxRecDepth 20000 in
theorem gX12_of_X12_isRow : GoodIn wsX12_of (wsV RX12 163 RX12 yX12_isRow wsX12_isRow) := goodIn_app (goodIn_of _ (by decide +kernel)) ggX12_of_X12_isRow
theorem dX12_of_0 : decode cX12_of 0 = .ok (.aload_n 0, 1) := by decide +kernel
theorem dX12_of_1 : decode cX12_of 1 = .ok (.iload_n 1, 1) := by decide +kernel
theorem dX12_of_2 : decode cX12_of 2 = .ok (.invokevirtual 163, 3) := by decide +kernel
theorem dX12_of_5 : decode cX12_of 5 = .ok (.ifCond .ne 5, 3) := by decide +kernel
theorem dX12_of_8 : decode cX12_of 8 = .ok (.iconst (-1), 1) := by decide +kernel
theorem dX12_of_9 : decode cX12_of 9 = .ok (.ireturn, 1) := by decide +kernel
set_option maxRecDepth 20000 in
theorem ggX12_like_X12_findPieces : GoodIn wsX12_like wsX12_findPieces := goodIn_r _ [6, 7, 8, 9, 10, 11, 12, 13, 14, 5, 15, 16, 17, 18, 19, 20, 21, 22, 23, 24, 25, 26, 27, 28, 29, 30, 31, 32, 33, 34, 35, 36, 37, 38, 39, 40, 41, 42, 43, 44, 56, 57, 58, 59, 60, 61, 62, 63, 64, 65, 66, 67, 68, 69, 70, 71, 72, 73, 74, 75, 76, 77, 78, 79, 80, 81, 82, 83, 84, 85, 86, 87, 88, 89, 90, 91, 92, 93, 94, 95, 96, 97, 98, 99, 100] (by decide +kernel) (by decide +kernel)
set_option maxRecDepth 20000 in
theorem gX12_like_X12_findPieces : GoodIn wsX12_like (wsV RX12 203 RX12 yX12_findPieces wsX12_findPieces) := goodIn_app (goodIn_of _ (by decide +kernel)) ggX12_like_X12_findPieces
set_option maxRecDepth 20000 in
theorem ggX12_like_X12_isPiece : GoodIn wsX12_like wsX12_isPiece := goodIn_r _ [48, 7, 37, 38, 5, 39, 56, 57, 58, 59, 60, 61, 62, 63, 64, 65, 66, 67, 68, 69, 70, 71, 72, 73, 74, 75, 76, 77, 78, 79, 80, 81, 82, 83, 84, 85, 86, 87, 88, 89, 90, 91, 92, 93, 94, 95, 96, 97, 98, 99, 100] (by decide +kernel) (by decide +kernel)
set_option maxRecDepth 20000 in
theorem gX12_like_X12_isPiece : GoodIn wsX12_like (wsV RX12 206 RX12 yX12_isPiece wsX12_isPiece) := goodIn_app (goodIn_of _ (by decide +kernel)) ggX12_like_X12_isPiece
theorem dX12_like_0 : decode cX12_like 0 = .ok (.aload_n 0, 1) := by decide +kernel
theorem dX12_like_1 : decode cX12_like 1 = .ok (.invokevirtual 203, 3) := by decide +kernel
theorem dX12_like_4 : decode cX12_like 4 = .ok (.aload_n 0, 1) := by decide +kernel
theorem dX12_like_5 : decode cX12_like 5 = .ok (.iload_n 1, 1) := by decide +kernel
theorem dX12_like_6 : decode cX12_like 6 = .ok (.invokevirtual 206, 3) := by decide +kernel
theorem dX12_like_9 : decode cX12_like 9 = .ok (.ifCond .eq 25, 3) := by decide +kernel
theorem dX12_like_34 : decode cX12_like 34 = .ok (.ldc 215, 2) := by decide +kernel
theorem dX12_like_36 : decode cX12_like 36 = .ok (.ireturn, 1) := by decide +kernel
theorem dX12_findGains_0 : decode cX12_findGains 0 = .ok (.iconst 0, 1) := by decide +kernel
theorem dX12_findGains_1 : decode cX12_findGains 1 = .ok (.istore_n 1, 1) := by decide +kernel
theorem dX12_findGains_2 : decode cX12_findGains 2 = .ok (.iload_n 1, 1) := by decide +kernel
theorem dX12_findGains_3 : decode cX12_findGains 3 = .ok (.aload_n 0, 1) := by decide +kernel
theorem dX12_findGains_4 : decode cX12_findGains 4 = .ok (.getfield 191, 3) := by decide +kernel
theorem dX12_findGains_7 : decode cX12_findGains 7 = .ok (.if_icmp .ge 71, 3) := by decide +kernel
theorem dX12_findGains_78 : decode cX12_findGains 78 = .ok (.return_, 1) := by decide +kernel
theorem dX12_worthOf_0 : decode cX12_worthOf 0 = .ok (.iconst 0, 1) := by decide +kernel
theorem dX12_worthOf_1 : decode cX12_worthOf 1 = .ok (.istore_n 2, 1) := by decide +kernel
theorem dX12_worthOf_2 : decode cX12_worthOf 2 = .ok (.iconst 0, 1) := by decide +kernel
theorem dX12_worthOf_3 : decode cX12_worthOf 3 = .ok (.istore_n 3, 1) := by decide +kernel
theorem dX12_worthOf_4 : decode cX12_worthOf 4 = .ok (.iload_n 3, 1) := by decide +kernel
theorem dX12_worthOf_5 : decode cX12_worthOf 5 = .ok (.aload_n 0, 1) := by decide +kernel
theorem dX12_worthOf_6 : decode cX12_worthOf 6 = .ok (.getfield 191, 3) := by decide +kernel
theorem dX12_worthOf_9 : decode cX12_worthOf 9 = .ok (.if_icmp .ge 53, 3) := by decide +kernel
theorem dX12_worthOf_62 : decode cX12_worthOf 62 = .ok (.iload_n 2, 1) := by decide +kernel
theorem dX12_worthOf_63 : decode cX12_worthOf 63 = .ok (.ireturn, 1) := by decide +kernel
theorem dX12_heapsIn_0 : decode cX12_heapsIn 0 = .ok (.iconst 0, 1) := by decide +kernel
theorem dX12_heapsIn_1 : decode cX12_heapsIn 1 = .ok (.istore_n 2, 1) := by decide +kernel
theorem dX12_heapsIn_2 : decode cX12_heapsIn 2 = .ok (.iconst 0, 1) := by decide +kernel
theorem dX12_heapsIn_3 : decode cX12_heapsIn 3 = .ok (.istore_n 3, 1) := by decide +kernel
theorem dX12_heapsIn_4 : decode cX12_heapsIn 4 = .ok (.iload_n 3, 1) := by decide +kernel
theorem dX12_heapsIn_5 : decode cX12_heapsIn 5 = .ok (.iload_n 1, 1) := by decide +kernel
theorem dX12_heapsIn_6 : decode cX12_heapsIn 6 = .ok (.if_icmp .ge 26, 3) := by decide +kernel
theorem dX12_heapsIn_32 : decode cX12_heapsIn 32 = .ok (.iload_n 2, 1) := by decide +kernel
theorem dX12_heapsIn_33 : decode cX12_heapsIn 33 = .ok (.ireturn, 1) := by decide +kernel
theorem dX12_goOn_0 : decode cX12_goOn 0 = .ok (.aload_n 0, 1) := by decide +kernel
theorem dX12_goOn_1 : decode cX12_goOn 1 = .ok (.getfield 191, 3) := by decide +kernel
theorem dX12_goOn_4 : decode cX12_goOn 4 = .ok (.iconst 1, 1) := by decide +kernel
theorem dX12_goOn_5 : decode cX12_goOn 5 = .ok (.isub, 1) := by decide +kernel
theorem dX12_goOn_6 : decode cX12_goOn 6 = .ok (.istore_n 1, 1) := by decide +kernel
theorem dX12_goOn_7 : decode cX12_goOn 7 = .ok (.iload_n 1, 1) := by decide +kernel
theorem dX12_goOn_8 : decode cX12_goOn 8 = .ok (.ifCond .le 63, 3) := by decide +kernel
theorem dX12_goOn_71 : decode cX12_goOn 71 = .ok (.iconst 0, 1) := by decide +kernel
theorem dX12_goOn_72 : decode cX12_goOn 72 = .ok (.ireturn, 1) := by decide +kernel
theorem dX12_begin_0 : decode cX12_begin 0 = .ok (.iconst 0, 1) := by decide +kernel
theorem dX12_begin_1 : decode cX12_begin 1 = .ok (.istore_n 1, 1) := by decide +kernel
theorem dX12_begin_2 : decode cX12_begin 2 = .ok (.iload_n 1, 1) := by decide +kernel
theorem dX12_begin_3 : decode cX12_begin 3 = .ok (.bipush 10, 2) := by decide +kernel
theorem dX12_begin_5 : decode cX12_begin 5 = .ok (.if_icmp .ge 16, 3) := by decide +kernel
theorem dX12_begin_8 : decode cX12_begin 8 = .ok (.aload_n 0, 1) := by decide +kernel
theorem dX12_begin_9 : decode cX12_begin 9 = .ok (.getfield 69, 3) := by decide +kernel
theorem dX12_begin_12 : decode cX12_begin 12 = .ok (.iload_n 1, 1) := by decide +kernel
theorem dX12_begin_13 : decode cX12_begin 13 = .ok (.iconst 0, 1) := by decide +kernel
theorem dX12_begin_14 : decode cX12_begin 14 = .ok (.iastore, 1) := by decide +kernel
theorem dX12_begin_15 : decode cX12_begin 15 = .ok (.iinc 1 1, 3) := by decide +kernel
theorem dX12_begin_18 : decode cX12_begin 18 = .ok (.goto (-16), 3) := by decide +kernel
theorem dX12_begin_21 : decode cX12_begin 21 = .ok (.return_, 1) := by decide +kernel
set_option maxRecDepth 20000 in
theorem ggX12_findBest_X12_findPieces : GoodIn wsX12_findBest wsX12_findPieces := goodIn_r _ [9, 1, 10, 11, 12, 13, 14, 15, 16, 8, 17, 18, 19, 20, 21, 22, 23, 24, 25, 26, 27, 28, 29, 30, 31, 32, 33, 34, 35, 36, 37, 38, 39, 40, 41, 42, 43, 44, 45, 46, 78, 79, 80, 81, 82, 83, 84, 85, 86, 87, 88, 89, 90, 91, 92, 93, 94, 95, 96, 97, 98, 99, 100, 101, 102, 103, 104, 105, 106, 107, 108, 109, 110, 111, 112, 113, 114, 115, 116, 117, 118, 119, 120, 121, 122] (by decide +kernel) (by decide +kernel)
set_option maxRecDepth 20000 in
theorem gX12_findBest_X12_findPieces : GoodIn wsX12_findBest (wsV RX12 203 RX12 yX12_findPieces wsX12_findPieces) := goodIn_app (goodIn_of _ (by decide +kernel)) ggX12_findBest_X12_findPieces
set_option maxRecDepth 20000 in
theorem ggX12_findBest_X12_findGains : GoodIn wsX12_findBest wsX12_findGains := goodIn_r _ [50, 1, 51, 21, 52, 53, 54, 8, 55, 32, 30, 56, 57, 58, 59, 60, 61, 62, 29, 78, 79, 80, 81, 82, 83, 84, 85, 86, 87, 88, 89, 90, 91, 92, 93, 94, 95, 96, 97, 98, 99, 100, 101, 102, 103, 104, 105, 106, 107, 108, 109, 110, 111, 112, 113, 114, 115, 116, 117, 118, 119, 120, 121, 122] (by decide +kernel) (by decide +kernel)
set_option maxRecDepth 20000 in
theorem gX12_findBest_X12_findGains : GoodIn wsX12_findBest (wsV RX12 223 RX12 yX12_findGains wsX12_findGains) := goodIn_app (goodIn_of _ (by decide +kernel)) ggX12_findBest_X12_findGains
set_option maxRecDepth 20000 in
theorem ggX12_findBest_X12_begin : GoodIn wsX12_findBest wsX12_begin := goodIn_r _ [66, 2, 78, 79, 80, 81, 82, 83, 84, 85, 86, 87, 88, 89, 90, 91, 92, 93, 94, 95, 96, 97, 98, 99, 100, 101, 102, 103, 104, 105, 106, 107, 108, 109, 110, 111, 112, 113, 114, 115, 116, 117, 118, 119, 120, 121, 122] (by decide +kernel) (by decide +kernel)
set_option maxRecDepth 20000 in
theorem gX12_findBest_X12_begin : GoodIn wsX12_findBest (wsV RX12 226 RX12 yX12_begin wsX12_begin) := goodIn_app (goodIn_of _ (by decide +kernel)) ggX12_findBest_X12_begin
set_option maxRecDepth 20000 in
theorem ggX12_findBest_X12_worthOf : GoodIn wsX12_findBest wsX12_worthOf := goodIn_r _ [70, 1, 51, 78, 79, 80, 81, 82, 83, 84, 85, 86, 87, 88, 89, 90, 91, 92, 93, 94, 95, 96, 97, 98, 99, 100, 101, 102, 103, 104, 105, 106, 107, 108, 109, 110, 111, 112, 113, 114, 115, 116, 117, 118, 119, 120, 121, 122] (by decide +kernel) (by decide +kernel)
set_option maxRecDepth 20000 in
theorem gX12_findBest_X12_worthOf : GoodIn wsX12_findBest (wsV RX12 229 RX12 yX12_worthOf wsX12_worthOf) := goodIn_app (goodIn_of _ (by decide +kernel)) ggX12_findBest_X12_worthOf
set_option maxRecDepth 20000 in
theorem ggX12_findBest_X12_goOn : GoodIn wsX12_findBest wsX12_goOn := goodIn_r _ [74, 1, 2, 75, 76, 8, 77, 78, 79, 80, 81, 82, 83, 84, 85, 86, 87, 88, 89, 90, 91, 92, 93, 94, 95, 96, 97, 98, 99, 100, 101, 102, 103, 104, 105, 106, 107, 108, 109, 110, 111, 112, 113, 114, 115, 116, 117, 118, 119, 120, 121, 122] (by decide +kernel) (by decide +kernel)
set_option maxRecDepth 20000 in
theorem gX12_findBest_X12_goOn : GoodIn wsX12_findBest (wsV RX12 236 RX12 yX12_goOn wsX12_goOn) := goodIn_app (goodIn_of _ (by decide +kernel)) ggX12_findBest_X12_goOn
theorem dX12_findBest_0 : decode cX12_findBest 0 = .ok (.aload_n 0, 1) := by decide +kernel
theorem dX12_findBest_1 : decode cX12_findBest 1 = .ok (.invokevirtual 203, 3) := by decide +kernel
theorem dX12_findBest_4 : decode cX12_findBest 4 = .ok (.aload_n 0, 1) := by decide +kernel
theorem dX12_findBest_5 : decode cX12_findBest 5 = .ok (.getfield 191, 3) := by decide +kernel
theorem dX12_findBest_8 : decode cX12_findBest 8 = .ok (.bipush 9, 2) := by decide +kernel
theorem dX12_findBest_10 : decode cX12_findBest 10 = .ok (.if_icmp .le 5, 3) := by decide +kernel
theorem dX12_findBest_15 : decode cX12_findBest 15 = .ok (.aload_n 0, 1) := by decide +kernel
theorem dX12_findBest_16 : decode cX12_findBest 16 = .ok (.invokevirtual 223, 3) := by decide +kernel
theorem dX12_findBest_19 : decode cX12_findBest 19 = .ok (.aload_n 0, 1) := by decide +kernel
theorem dX12_findBest_20 : decode cX12_findBest 20 = .ok (.invokevirtual 226, 3) := by decide +kernel
theorem dX12_findBest_23 : decode cX12_findBest 23 = .ok (.iconst 1, 1) := by decide +kernel
theorem dX12_findBest_24 : decode cX12_findBest 24 = .ok (.istore_n 1, 1) := by decide +kernel
theorem dX12_findBest_25 : decode cX12_findBest 25 = .ok (.iconst 0, 1) := by decide +kernel
theorem dX12_findBest_26 : decode cX12_findBest 26 = .ok (.istore_n 2, 1) := by decide +kernel
theorem dX12_findBest_27 : decode cX12_findBest 27 = .ok (.iload_n 1, 1) := by decide +kernel
theorem dX12_findBest_28 : decode cX12_findBest 28 = .ok (.ifCond .eq 71, 3) := by decide +kernel
theorem dX12_findBest_31 : decode cX12_findBest 31 = .ok (.aload_n 0, 1) := by decide +kernel
theorem dX12_findBest_32 : decode cX12_findBest 32 = .ok (.aload_n 0, 1) := by decide +kernel
theorem dX12_findBest_33 : decode cX12_findBest 33 = .ok (.getfield 69, 3) := by decide +kernel
theorem dX12_findBest_36 : decode cX12_findBest 36 = .ok (.invokevirtual 229, 3) := by decide +kernel
theorem dX12_findBest_39 : decode cX12_findBest 39 = .ok (.istore_n 3, 1) := by decide +kernel
theorem dX12_findBest_40 : decode cX12_findBest 40 = .ok (.iload_n 2, 1) := by decide +kernel
theorem dX12_findBest_41 : decode cX12_findBest 41 = .ok (.ifCond .eq 11, 3) := by decide +kernel
theorem dX12_findBest_52 : decode cX12_findBest 52 = .ok (.aload_n 0, 1) := by decide +kernel
theorem dX12_findBest_53 : decode cX12_findBest 53 = .ok (.iload_n 3, 1) := by decide +kernel
theorem dX12_findBest_54 : decode cX12_findBest 54 = .ok (.putfield 233, 3) := by decide +kernel
theorem dX12_findBest_57 : decode cX12_findBest 57 = .ok (.iconst 0, 1) := by decide +kernel
theorem dX12_findBest_58 : decode cX12_findBest 58 = .ok (.istore 4, 2) := by decide +kernel
theorem dX12_findBest_60 : decode cX12_findBest 60 = .ok (.iload 4, 2) := by decide +kernel
theorem dX12_findBest_62 : decode cX12_findBest 62 = .ok (.aload_n 0, 1) := by decide +kernel
theorem dX12_findBest_63 : decode cX12_findBest 63 = .ok (.getfield 191, 3) := by decide +kernel
theorem dX12_findBest_66 : decode cX12_findBest 66 = .ok (.if_icmp .ge 23, 3) := by decide +kernel
theorem dX12_findBest_89 : decode cX12_findBest 89 = .ok (.iconst 1, 1) := by decide +kernel
theorem dX12_findBest_90 : decode cX12_findBest 90 = .ok (.istore_n 2, 1) := by decide +kernel
theorem dX12_findBest_91 : decode cX12_findBest 91 = .ok (.aload_n 0, 1) := by decide +kernel
theorem dX12_findBest_92 : decode cX12_findBest 92 = .ok (.invokevirtual 236, 3) := by decide +kernel
theorem dX12_findBest_95 : decode cX12_findBest 95 = .ok (.istore_n 1, 1) := by decide +kernel
theorem dX12_findBest_96 : decode cX12_findBest 96 = .ok (.goto (-69), 3) := by decide +kernel
theorem dX12_findBest_99 : decode cX12_findBest 99 = .ok (.iconst 1, 1) := by decide +kernel
theorem dX12_findBest_100 : decode cX12_findBest 100 = .ok (.ireturn, 1) := by decide +kernel
theorem dX12_join_0 : decode cX12_join 0 = .ok (.iconst 0, 1) := by decide +kernel
theorem dX12_join_1 : decode cX12_join 1 = .ok (.istore_n 1, 1) := by decide +kernel
theorem dX12_join_2 : decode cX12_join 2 = .ok (.iload_n 1, 1) := by decide +kernel
theorem dX12_join_3 : decode cX12_join 3 = .ok (.aload_n 0, 1) := by decide +kernel
theorem dX12_join_4 : decode cX12_join 4 = .ok (.getfield 191, 3) := by decide +kernel
theorem dX12_join_7 : decode cX12_join 7 = .ok (.if_icmp .ge 16, 3) := by decide +kernel
theorem dX12_join_23 : decode cX12_join 23 = .ok (.iconst 1, 1) := by decide +kernel
theorem dX12_join_24 : decode cX12_join 24 = .ok (.istore_n 1, 1) := by decide +kernel
theorem dX12_join_25 : decode cX12_join 25 = .ok (.iload_n 1, 1) := by decide +kernel
theorem dX12_join_26 : decode cX12_join 26 = .ok (.ifCond .eq 243, 3) := by decide +kernel
theorem dX12_join_29 : decode cX12_join 29 = .ok (.bipush (-9), 2) := by decide +kernel
theorem dX12_join_31 : decode cX12_join 31 = .ok (.istore_n 2, 1) := by decide +kernel
theorem dX12_join_32 : decode cX12_join 32 = .ok (.bipush (-9), 2) := by decide +kernel
theorem dX12_join_34 : decode cX12_join 34 = .ok (.istore_n 3, 1) := by decide +kernel
theorem dX12_join_35 : decode cX12_join 35 = .ok (.iconst 0, 1) := by decide +kernel
theorem dX12_join_36 : decode cX12_join 36 = .ok (.istore 4, 2) := by decide +kernel
theorem dX12_join_38 : decode cX12_join 38 = .ok (.iconst 0, 1) := by decide +kernel
theorem dX12_join_39 : decode cX12_join 39 = .ok (.istore 5, 2) := by decide +kernel
theorem dX12_join_41 : decode cX12_join 41 = .ok (.iload 5, 2) := by decide +kernel
theorem dX12_join_43 : decode cX12_join 43 = .ok (.aload_n 0, 1) := by decide +kernel
theorem dX12_join_44 : decode cX12_join 44 = .ok (.getfield 191, 3) := by decide +kernel
theorem dX12_join_47 : decode cX12_join 47 = .ok (.if_icmp .ge 156, 3) := by decide +kernel
theorem dX12_join_203 : decode cX12_join 203 = .ok (.iload_n 2, 1) := by decide +kernel
theorem dX12_join_204 : decode cX12_join 204 = .ok (.bipush (-9), 2) := by decide +kernel
theorem dX12_join_206 : decode cX12_join 206 = .ok (.if_icmp .eq 7, 3) := by decide +kernel
theorem dX12_join_213 : decode cX12_join 213 = .ok (.iconst 0, 1) := by decide +kernel
theorem dX12_join_214 : decode cX12_join 214 = .ok (.istore_n 1, 1) := by decide +kernel
theorem dX12_join_215 : decode cX12_join 215 = .ok (.iconst 0, 1) := by decide +kernel
theorem dX12_join_216 : decode cX12_join 216 = .ok (.istore 5, 2) := by decide +kernel
theorem dX12_join_218 : decode cX12_join 218 = .ok (.iload 5, 2) := by decide +kernel
theorem dX12_join_220 : decode cX12_join 220 = .ok (.aload_n 0, 1) := by decide +kernel
theorem dX12_join_221 : decode cX12_join 221 = .ok (.getfield 191, 3) := by decide +kernel
theorem dX12_join_224 : decode cX12_join 224 = .ok (.if_icmp .ge 42, 3) := by decide +kernel
theorem dX12_join_266 : decode cX12_join 266 = .ok (.goto (-241), 3) := by decide +kernel
theorem dX12_join_269 : decode cX12_join 269 = .ok (.iconst 0, 1) := by decide +kernel
theorem dX12_join_270 : decode cX12_join 270 = .ok (.istore_n 2, 1) := by decide +kernel
theorem dX12_join_271 : decode cX12_join 271 = .ok (.iconst 0, 1) := by decide +kernel
theorem dX12_join_272 : decode cX12_join 272 = .ok (.istore_n 3, 1) := by decide +kernel
theorem dX12_join_273 : decode cX12_join 273 = .ok (.iload_n 3, 1) := by decide +kernel
theorem dX12_join_274 : decode cX12_join 274 = .ok (.aload_n 0, 1) := by decide +kernel
theorem dX12_join_275 : decode cX12_join 275 = .ok (.getfield 191, 3) := by decide +kernel
theorem dX12_join_278 : decode cX12_join 278 = .ok (.if_icmp .ge 58, 3) := by decide +kernel
theorem dX12_join_336 : decode cX12_join 336 = .ok (.iconst 0, 1) := by decide +kernel
theorem dX12_join_337 : decode cX12_join 337 = .ok (.istore_n 3, 1) := by decide +kernel
theorem dX12_join_338 : decode cX12_join 338 = .ok (.iload_n 3, 1) := by decide +kernel
theorem dX12_join_339 : decode cX12_join 339 = .ok (.aload_n 0, 1) := by decide +kernel
theorem dX12_join_340 : decode cX12_join 340 = .ok (.getfield 191, 3) := by decide +kernel
theorem dX12_join_343 : decode cX12_join 343 = .ok (.if_icmp .ge 21, 3) := by decide +kernel
theorem dX12_join_364 : decode cX12_join 364 = .ok (.return_, 1) := by decide +kernel
set_option maxRecDepth 20000 in
theorem ggX12_heap_X12_findPieces : GoodIn wsX12_heap wsX12_findPieces := goodIn_r _ [7, 8, 9, 10, 11, 12, 13, 14, 15, 6, 16, 17, 18, 19, 20, 21, 22, 23, 24, 25, 26, 27, 28, 29, 30, 31, 32, 33, 34, 35, 36, 37, 38, 39, 40, 41, 42, 43, 44, 45, 91, 92, 93, 94, 95, 96, 97, 98, 99, 100, 101, 102, 103, 104, 105, 106, 107, 108, 109, 110, 111, 112, 113, 114, 115, 116, 117, 118, 119, 120, 121, 122, 123, 124, 125, 126, 127, 128, 129, 130, 131, 132, 133, 134, 135] (by decide +kernel) (by decide +kernel)
set_option maxRecDepth 20000 in
theorem gX12_heap_X12_findPieces : GoodIn wsX12_heap (wsV RX12 203 RX12 yX12_findPieces wsX12_findPieces) := goodIn_app (goodIn_of _ (by decide +kernel)) ggX12_heap_X12_findPieces
set_option maxRecDepth 20000 in
theorem ggX12_heap_X12_isPiece : GoodIn wsX12_heap wsX12_isPiece := goodIn_r _ [49, 8, 38, 39, 6, 40, 91, 92, 93, 94, 95, 96, 97, 98, 99, 100, 101, 102, 103, 104, 105, 106, 107, 108, 109, 110, 111, 112, 113, 114, 115, 116, 117, 118, 119, 120, 121, 122, 123, 124, 125, 126, 127, 128, 129, 130, 131, 132, 133, 134, 135] (by decide +kernel) (by decide +kernel)
set_option maxRecDepth 20000 in
theorem gX12_heap_X12_isPiece : GoodIn wsX12_heap (wsV RX12 206 RX12 yX12_isPiece wsX12_isPiece) := goodIn_app (goodIn_of _ (by decide +kernel)) ggX12_heap_X12_isPiece
theorem dX12_heap_0 : decode cX12_heap 0 = .ok (.aload_n 0, 1) := by decide +kernel
theorem dX12_heap_1 : decode cX12_heap 1 = .ok (.invokevirtual 203, 3) := by decide +kernel
theorem dX12_heap_4 : decode cX12_heap 4 = .ok (.aload_n 0, 1) := by decide +kernel
theorem dX12_heap_5 : decode cX12_heap 5 = .ok (.iload_n 1, 1) := by decide +kernel
theorem dX12_heap_6 : decode cX12_heap 6 = .ok (.invokevirtual 206, 3) := by decide +kernel
theorem dX12_heap_9 : decode cX12_heap 9 = .ok (.ifCond .eq 12, 3) := by decide +kernel
theorem dX12_heap_21 : decode cX12_heap 21 = .ok (.iconst (-1), 1) := by decide +kernel
theorem dX12_heap_22 : decode cX12_heap 22 = .ok (.ireturn, 1) := by decide +kernel
set_option maxRecDepth 20000 in
theorem ggX12_worth_X12_in : GoodIn wsX12_worth wsX12_in := goodIn_r _ [7] (by decide +kernel) (by decide +kernel)
set_option maxRecDepth 20000 in
theorem gX12_worth_X12_in : GoodIn wsX12_worth (va_wsS RX12 100 yX12_in wsX12_in) := goodIn_app (goodIn_of _ (by decide +kernel)) ggX12_worth_X12_in
set_option maxRecDepth 20000 in
theorem ggX12_worth_X12_findBest : GoodIn wsX12_worth wsX12_findBest := goodIn_r _ [11, 12, 13, 2, 14, 15, 16, 17, 6, 18, 19, 20, 21, 22, 23, 24, 25, 26, 27, 28, 29, 30, 31, 32, 33, 34, 35, 36, 37, 38, 39, 40, 41, 42, 43, 44, 45, 46, 47, 4, 5, 7, 48, 49, 50, 51, 52, 53, 54, 55, 56, 57, 58, 59, 60, 61, 62, 63, 64, 65, 66, 67, 68, 69, 70, 71, 72, 73, 74, 75, 76, 77, 78, 79, 80, 81, 82, 83, 88, 89, 90, 91, 92, 93, 94, 95, 96, 97, 98, 99, 100, 101, 102, 103, 104, 105, 106, 107, 108, 109, 110, 111, 112, 113, 114, 115, 116, 117, 118, 119, 120, 121, 122, 123, 124, 125, 126, 127, 128, 129, 130, 131, 132] (by decide +kernel) (by decide +kernel)
set_option maxRecDepth 20000 in
theorem gX12_worth_X12_findBest : GoodIn wsX12_worth (wsV RX12 240 RX12 yX12_findBest wsX12_findBest) := goodIn_app (goodIn_of _ (by decide +kernel)) ggX12_worth_X12_findBest
set_option maxRecDepth 20000 in
theorem ggX12_worth_X12_join : GoodIn wsX12_worth wsX12_join := goodIn_r _ [87, 12, 3, 57, 13, 88, 89, 90, 91, 92, 93, 94, 95, 96, 97, 98, 99, 100, 101, 102, 103, 104, 105, 106, 107, 108, 109, 110, 111, 112, 113, 114, 115, 116, 117, 118, 119, 120, 121, 122, 123, 124, 125, 126, 127, 128, 129, 130, 131, 132] (by decide +kernel) (by decide +kernel)
set_option maxRecDepth 20000 in
theorem gX12_worth_X12_join : GoodIn wsX12_worth (wsV RX12 243 RX12 yX12_join wsX12_join) := goodIn_app (goodIn_of _ (by decide +kernel)) ggX12_worth_X12_join
set_option maxRecDepth 20000 in
theorem ggX12_worth_X12_worthOf : GoodIn wsX12_worth wsX12_worthOf := goodIn_r _ [76, 12, 57, 88, 89, 90, 91, 92, 93, 94, 95, 96, 97, 98, 99, 100, 101, 102, 103, 104, 105, 106, 107, 108, 109, 110, 111, 112, 113, 114, 115, 116, 117, 118, 119, 120, 121, 122, 123, 124, 125, 126, 127, 128, 129, 130, 131, 132] (by decide +kernel) (by decide +kernel)
set_option maxRecDepth 20000 in
theorem gX12_worth_X12_worthOf : GoodIn wsX12_worth (wsV RX12 229 RX12 yX12_worthOf wsX12_worthOf) := goodIn_app (goodIn_of _ (by decide +kernel)) ggX12_worth_X12_worthOf
theorem dX12_worth_0 : decode cX12_worth 0 = .ok (.iload_n 1, 1) := by decide +kernel
theorem dX12_worth_1 : decode cX12_worth 1 = .ok (.iconst 0, 1) := by decide +kernel
theorem dX12_worth_2 : decode cX12_worth 2 = .ok (.iconst 1, 1) := by decide +kernel
theorem dX12_worth_3 : decode cX12_worth 3 = .ok (.invokestatic 100, 3) := by decide +kernel
theorem dX12_worth_6 : decode cX12_worth 6 = .ok (.ifCond .eq 10, 3) := by decide +kernel
theorem dX12_worth_9 : decode cX12_worth 9 = .ok (.aload_n 0, 1) := by decide +kernel
theorem dX12_worth_10 : decode cX12_worth 10 = .ok (.invokevirtual 240, 3) := by decide +kernel
theorem dX12_worth_13 : decode cX12_worth 13 = .ok (.ifCond .ne 6, 3) := by decide +kernel
theorem dX12_worth_16 : decode cX12_worth 16 = .ok (.ldc 215, 2) := by decide +kernel
theorem dX12_worth_18 : decode cX12_worth 18 = .ok (.ireturn, 1) := by decide +kernel
theorem dX12_worth_19 : decode cX12_worth 19 = .ok (.aload_n 0, 1) := by decide +kernel
theorem dX12_worth_20 : decode cX12_worth 20 = .ok (.invokevirtual 243, 3) := by decide +kernel
theorem dX12_worth_23 : decode cX12_worth 23 = .ok (.iload_n 1, 1) := by decide +kernel
theorem dX12_worth_24 : decode cX12_worth 24 = .ok (.ifCond .ne 10, 3) := by decide +kernel
theorem dX12_worth_27 : decode cX12_worth 27 = .ok (.aload_n 0, 1) := by decide +kernel
theorem dX12_worth_28 : decode cX12_worth 28 = .ok (.getfield 233, 3) := by decide +kernel
theorem dX12_worth_31 : decode cX12_worth 31 = .ok (.goto 11, 3) := by decide +kernel
theorem dX12_worth_34 : decode cX12_worth 34 = .ok (.aload_n 0, 1) := by decide +kernel
theorem dX12_worth_35 : decode cX12_worth 35 = .ok (.aload_n 0, 1) := by decide +kernel
theorem dX12_worth_36 : decode cX12_worth 36 = .ok (.getfield 75, 3) := by decide +kernel
theorem dX12_worth_39 : decode cX12_worth 39 = .ok (.invokevirtual 229, 3) := by decide +kernel
theorem dX12_worth_42 : decode cX12_worth 42 = .ok (.ireturn, 1) := by decide +kernel
set_option maxRecDepth 20000 in
theorem ggX12_near_X12_in : GoodIn wsX12_near wsX12_in := goodIn_r _ [10] (by decide +kernel) (by decide +kernel)
set_option maxRecDepth 20000 in
theorem gX12_near_X12_in : GoodIn wsX12_near (va_wsS RX12 100 yX12_in wsX12_in) := goodIn_app (goodIn_of _ (by decide +kernel)) ggX12_near_X12_in
set_option maxRecDepth 20000 in
theorem ggX12_near_X12_findBest : GoodIn wsX12_near wsX12_findBest := goodIn_r _ [14, 2, 4, 5, 1, 15, 16, 17, 9, 18, 19, 20, 21, 22, 23, 24, 25, 26, 27, 28, 29, 6, 30, 31, 32, 33, 34, 35, 36, 37, 38, 39, 40, 41, 42, 43, 44, 45, 46, 7, 8, 10, 47, 48, 49, 50, 51, 52, 53, 54, 55, 56, 57, 58, 59, 60, 61, 62, 63, 64, 65, 66, 67, 68, 69, 70, 71, 72, 73, 74, 75, 76, 77, 78, 79, 80, 81, 82, 87, 88, 89, 90, 91, 92, 93, 94, 95, 96, 97, 98, 99, 100, 101, 102, 103, 104, 105, 106, 107, 108, 109, 110, 111, 112, 113, 114, 115, 116, 117, 118, 119, 120, 121, 122, 123, 124, 125, 126, 127, 128, 129, 130, 131] (by decide +kernel) (by decide +kernel)
set_option maxRecDepth 20000 in
theorem gX12_near_X12_findBest : GoodIn wsX12_near (wsV RX12 240 RX12 yX12_findBest wsX12_findBest) := goodIn_app (goodIn_of _ (by decide +kernel)) ggX12_near_X12_findBest
set_option maxRecDepth 20000 in
theorem ggX12_near_X12_join : GoodIn wsX12_near wsX12_join := goodIn_r _ [86, 2, 3, 56, 4, 87, 88, 89, 90, 91, 92, 93, 94, 95, 96, 97, 98, 99, 100, 101, 102, 103, 104, 105, 106, 107, 108, 109, 110, 111, 112, 113, 114, 115, 116, 117, 118, 119, 120, 121, 122, 123, 124, 125, 126, 127, 128, 129, 130, 131] (by decide +kernel) (by decide +kernel)
set_option maxRecDepth 20000 in
theorem gX12_near_X12_join : GoodIn wsX12_near (wsV RX12 243 RX12 yX12_join wsX12_join) := goodIn_app (goodIn_of _ (by decide +kernel)) ggX12_near_X12_join
set_option maxRecDepth 20000 in
theorem ggX12_near_X12_heapsIn : GoodIn wsX12_near wsX12_heapsIn := goodIn_r _ [82] (by decide +kernel) (by decide +kernel)
set_option maxRecDepth 20000 in
theorem gX12_near_X12_heapsIn : GoodIn wsX12_near (va_wsS RX12 219 yX12_heapsIn wsX12_heapsIn) := goodIn_app (goodIn_of _ (by decide +kernel)) ggX12_near_X12_heapsIn
set_option maxRecDepth 20000 in
theorem ggX12_near_X12_begin : GoodIn wsX12_near wsX12_begin := goodIn_r _ [71, 4, 87, 88, 89, 90, 91, 92, 93, 94, 95, 96, 97, 98, 99, 100, 101, 102, 103, 104, 105, 106, 107, 108, 109, 110, 111, 112, 113, 114, 115, 116, 117, 118, 119, 120, 121, 122, 123, 124, 125, 126, 127, 128, 129, 130, 131] (by decide +kernel) (by decide +kernel)
set_option maxRecDepth 20000 in
theorem gX12_near_X12_begin : GoodIn wsX12_near (wsV RX12 226 RX12 yX12_begin wsX12_begin) := goodIn_app (goodIn_of _ (by decide +kernel)) ggX12_near_X12_begin
set_option maxRecDepth 20000 in
theorem ggX12_near_X12_worthOf : GoodIn wsX12_near wsX12_worthOf := goodIn_r _ [75, 2, 56, 87, 88, 89, 90, 91, 92, 93, 94, 95, 96, 97, 98, 99, 100, 101, 102, 103, 104, 105, 106, 107, 108, 109, 110, 111, 112, 113, 114, 115, 116, 117, 118, 119, 120, 121, 122, 123, 124, 125, 126, 127, 128, 129, 130, 131] (by decide +kernel) (by decide +kernel)
set_option maxRecDepth 20000 in
theorem gX12_near_X12_worthOf : GoodIn wsX12_near (wsV RX12 229 RX12 yX12_worthOf wsX12_worthOf) := goodIn_app (goodIn_of _ (by decide +kernel)) ggX12_near_X12_worthOf
set_option maxRecDepth 20000 in
theorem ggX12_near_X12_goOn : GoodIn wsX12_near wsX12_goOn := goodIn_r _ [79, 2, 4, 80, 81, 9, 82, 87, 88, 89, 90, 91, 92, 93, 94, 95, 96, 97, 98, 99, 100, 101, 102, 103, 104, 105, 106, 107, 108, 109, 110, 111, 112, 113, 114, 115, 116, 117, 118, 119, 120, 121, 122, 123, 124, 125, 126, 127, 128, 129, 130, 131] (by decide +kernel) (by decide +kernel)
set_option maxRecDepth 20000 in
theorem gX12_near_X12_goOn : GoodIn wsX12_near (wsV RX12 236 RX12 yX12_goOn wsX12_goOn) := goodIn_app (goodIn_of _ (by decide +kernel)) ggX12_near_X12_goOn
theorem dX12_near_0 : decode cX12_near 0 = .ok (.iload_n 1, 1) := by decide +kernel
theorem dX12_near_1 : decode cX12_near 1 = .ok (.iconst 0, 1) := by decide +kernel
theorem dX12_near_2 : decode cX12_near 2 = .ok (.iconst 4, 1) := by decide +kernel
theorem dX12_near_3 : decode cX12_near 3 = .ok (.invokestatic 100, 3) := by decide +kernel
theorem dX12_near_6 : decode cX12_near 6 = .ok (.ifCond .ne 5, 3) := by decide +kernel
theorem dX12_near_9 : decode cX12_near 9 = .ok (.iconst (-1), 1) := by decide +kernel
theorem dX12_near_10 : decode cX12_near 10 = .ok (.ireturn, 1) := by decide +kernel
theorem dX12_near_11 : decode cX12_near 11 = .ok (.aload_n 0, 1) := by decide +kernel
theorem dX12_near_12 : decode cX12_near 12 = .ok (.invokevirtual 240, 3) := by decide +kernel
theorem dX12_near_15 : decode cX12_near 15 = .ok (.ifCond .ne 6, 3) := by decide +kernel
theorem dX12_near_21 : decode cX12_near 21 = .ok (.iload_n 1, 1) := by decide +kernel
theorem dX12_near_22 : decode cX12_near 22 = .ok (.iconst 2, 1) := by decide +kernel
theorem dX12_near_23 : decode cX12_near 23 = .ok (.if_icmp .le 38, 3) := by decide +kernel
theorem dX12_near_26 : decode cX12_near 26 = .ok (.aload_n 0, 1) := by decide +kernel
theorem dX12_near_27 : decode cX12_near 27 = .ok (.invokevirtual 243, 3) := by decide +kernel
theorem dX12_near_30 : decode cX12_near 30 = .ok (.iload_n 1, 1) := by decide +kernel
theorem dX12_near_31 : decode cX12_near 31 = .ok (.iconst 3, 1) := by decide +kernel
theorem dX12_near_32 : decode cX12_near 32 = .ok (.if_icmp .ne 17, 3) := by decide +kernel
theorem dX12_near_35 : decode cX12_near 35 = .ok (.aload_n 0, 1) := by decide +kernel
theorem dX12_near_36 : decode cX12_near 36 = .ok (.getfield 72, 3) := by decide +kernel
theorem dX12_near_39 : decode cX12_near 39 = .ok (.aload_n 0, 1) := by decide +kernel
theorem dX12_near_40 : decode cX12_near 40 = .ok (.getfield 191, 3) := by decide +kernel
theorem dX12_near_43 : decode cX12_near 43 = .ok (.invokestatic 219, 3) := by decide +kernel
theorem dX12_near_46 : decode cX12_near 46 = .ok (.goto 14, 3) := by decide +kernel
theorem dX12_near_49 : decode cX12_near 49 = .ok (.aload_n 0, 1) := by decide +kernel
theorem dX12_near_50 : decode cX12_near 50 = .ok (.getfield 75, 3) := by decide +kernel
theorem dX12_near_53 : decode cX12_near 53 = .ok (.aload_n 0, 1) := by decide +kernel
theorem dX12_near_54 : decode cX12_near 54 = .ok (.getfield 191, 3) := by decide +kernel
theorem dX12_near_57 : decode cX12_near 57 = .ok (.invokestatic 219, 3) := by decide +kernel
theorem dX12_near_60 : decode cX12_near 60 = .ok (.ireturn, 1) := by decide +kernel
theorem dX12_near_61 : decode cX12_near 61 = .ok (.iconst 0, 1) := by decide +kernel
theorem dX12_near_62 : decode cX12_near 62 = .ok (.istore_n 2, 1) := by decide +kernel
theorem dX12_near_63 : decode cX12_near 63 = .ok (.bipush 10, 2) := by decide +kernel
theorem dX12_near_65 : decode cX12_near 65 = .ok (.istore_n 3, 1) := by decide +kernel
theorem dX12_near_66 : decode cX12_near 66 = .ok (.iconst (-1), 1) := by decide +kernel
theorem dX12_near_67 : decode cX12_near 67 = .ok (.istore 4, 2) := by decide +kernel
theorem dX12_near_69 : decode cX12_near 69 = .ok (.aload_n 0, 1) := by decide +kernel
theorem dX12_near_70 : decode cX12_near 70 = .ok (.invokevirtual 226, 3) := by decide +kernel
theorem dX12_near_73 : decode cX12_near 73 = .ok (.iconst 1, 1) := by decide +kernel
theorem dX12_near_74 : decode cX12_near 74 = .ok (.istore 5, 2) := by decide +kernel
theorem dX12_near_76 : decode cX12_near 76 = .ok (.iload 5, 2) := by decide +kernel
theorem dX12_near_78 : decode cX12_near 78 = .ok (.ifCond .eq 79, 3) := by decide +kernel
theorem dX12_near_81 : decode cX12_near 81 = .ok (.aload_n 0, 1) := by decide +kernel
theorem dX12_near_82 : decode cX12_near 82 = .ok (.aload_n 0, 1) := by decide +kernel
theorem dX12_near_83 : decode cX12_near 83 = .ok (.getfield 69, 3) := by decide +kernel
theorem dX12_near_86 : decode cX12_near 86 = .ok (.invokevirtual 229, 3) := by decide +kernel
theorem dX12_near_89 : decode cX12_near 89 = .ok (.aload_n 0, 1) := by decide +kernel
theorem dX12_near_90 : decode cX12_near 90 = .ok (.getfield 233, 3) := by decide +kernel
theorem dX12_near_93 : decode cX12_near 93 = .ok (.aload_n 0, 1) := by decide +kernel
theorem dX12_near_94 : decode cX12_near 94 = .ok (.getfield 7, 3) := by decide +kernel
theorem dX12_near_97 : decode cX12_near 97 = .ok (.iconst 3, 1) := by decide +kernel
theorem dX12_near_98 : decode cX12_near 98 = .ok (.iaload, 1) := by decide +kernel
theorem dX12_near_99 : decode cX12_near 99 = .ok (.isub, 1) := by decide +kernel
theorem dX12_near_100 : decode cX12_near 100 = .ok (.if_icmp .lt 48, 3) := by decide +kernel
theorem dX12_near_103 : decode cX12_near 103 = .ok (.aload_n 0, 1) := by decide +kernel
theorem dX12_near_104 : decode cX12_near 104 = .ok (.getfield 69, 3) := by decide +kernel
theorem dX12_near_107 : decode cX12_near 107 = .ok (.aload_n 0, 1) := by decide +kernel
theorem dX12_near_108 : decode cX12_near 108 = .ok (.getfield 191, 3) := by decide +kernel
theorem dX12_near_111 : decode cX12_near 111 = .ok (.invokestatic 219, 3) := by decide +kernel
theorem dX12_near_114 : decode cX12_near 114 = .ok (.istore 6, 2) := by decide +kernel
theorem dX12_near_116 : decode cX12_near 116 = .ok (.iinc 2 1, 3) := by decide +kernel
theorem dX12_near_119 : decode cX12_near 119 = .ok (.iload 6, 2) := by decide +kernel
theorem dX12_near_121 : decode cX12_near 121 = .ok (.iload_n 3, 1) := by decide +kernel
theorem dX12_near_122 : decode cX12_near 122 = .ok (.if_icmp .ge 8, 3) := by decide +kernel
theorem dX12_near_125 : decode cX12_near 125 = .ok (.iload 6, 2) := by decide +kernel
theorem dX12_near_127 : decode cX12_near 127 = .ok (.goto 4, 3) := by decide +kernel
theorem dX12_near_131 : decode cX12_near 131 = .ok (.istore_n 3, 1) := by decide +kernel
theorem dX12_near_132 : decode cX12_near 132 = .ok (.iload 6, 2) := by decide +kernel
theorem dX12_near_134 : decode cX12_near 134 = .ok (.iload 4, 2) := by decide +kernel
theorem dX12_near_136 : decode cX12_near 136 = .ok (.if_icmp .le 8, 3) := by decide +kernel
theorem dX12_near_139 : decode cX12_near 139 = .ok (.iload 6, 2) := by decide +kernel
theorem dX12_near_141 : decode cX12_near 141 = .ok (.goto 5, 3) := by decide +kernel
theorem dX12_near_146 : decode cX12_near 146 = .ok (.istore 4, 2) := by decide +kernel
theorem dX12_near_148 : decode cX12_near 148 = .ok (.aload_n 0, 1) := by decide +kernel
theorem dX12_near_149 : decode cX12_near 149 = .ok (.invokevirtual 236, 3) := by decide +kernel
theorem dX12_near_152 : decode cX12_near 152 = .ok (.istore 5, 2) := by decide +kernel
theorem dX12_near_154 : decode cX12_near 154 = .ok (.goto (-78), 3) := by decide +kernel
theorem dX12_near_157 : decode cX12_near 157 = .ok (.iload_n 1, 1) := by decide +kernel
theorem dX12_near_158 : decode cX12_near 158 = .ok (.ifCond .ne 7, 3) := by decide +kernel
theorem dX12_near_161 : decode cX12_near 161 = .ok (.iload_n 2, 1) := by decide +kernel
theorem dX12_near_162 : decode cX12_near 162 = .ok (.goto 14, 3) := by decide +kernel
theorem dX12_near_165 : decode cX12_near 165 = .ok (.iload_n 1, 1) := by decide +kernel
theorem dX12_near_166 : decode cX12_near 166 = .ok (.iconst 1, 1) := by decide +kernel
theorem dX12_near_167 : decode cX12_near 167 = .ok (.if_icmp .ne 7, 3) := by decide +kernel
theorem dX12_near_170 : decode cX12_near 170 = .ok (.iload_n 3, 1) := by decide +kernel
theorem dX12_near_171 : decode cX12_near 171 = .ok (.goto 5, 3) := by decide +kernel
theorem dX12_near_174 : decode cX12_near 174 = .ok (.iload 4, 2) := by decide +kernel
theorem dX12_near_176 : decode cX12_near 176 = .ok (.ireturn, 1) := by decide +kernel
set_option maxRecDepth 20000 in
theorem ggX12_sure_X12_findPieces : GoodIn wsX12_sure wsX12_findPieces := goodIn_r _ [8, 9, 10, 11, 12, 13, 14, 15, 16, 7, 17, 18, 19, 20, 3, 21, 22, 23, 24, 25, 26, 27, 28, 29, 30, 31, 32, 33, 34, 35, 36, 37, 38, 39, 40, 41, 42, 43, 44, 45, 86, 87, 88, 89, 90, 91, 92, 93, 94, 95, 96, 97, 98, 99, 100, 101, 102, 103, 104, 105, 106, 107, 108, 109, 110, 111, 112, 113, 114, 115, 116, 117, 118, 119, 120, 121, 122, 123, 124, 125, 126, 127, 128, 129, 130] (by decide +kernel) (by decide +kernel)
set_option maxRecDepth 20000 in
theorem gX12_sure_X12_findPieces : GoodIn wsX12_sure (wsV RX12 203 RX12 yX12_findPieces wsX12_findPieces) := goodIn_app (goodIn_of _ (by decide +kernel)) ggX12_sure_X12_findPieces
set_option maxRecDepth 20000 in
theorem ggX12_sure_X12_isPiece : GoodIn wsX12_sure wsX12_isPiece := goodIn_r _ [49, 9, 38, 39, 7, 40, 86, 87, 88, 89, 90, 91, 92, 93, 94, 95, 96, 97, 98, 99, 100, 101, 102, 103, 104, 105, 106, 107, 108, 109, 110, 111, 112, 113, 114, 115, 116, 117, 118, 119, 120, 121, 122, 123, 124, 125, 126, 127, 128, 129, 130] (by decide +kernel) (by decide +kernel)
set_option maxRecDepth 20000 in
theorem gX12_sure_X12_isPiece : GoodIn wsX12_sure (wsV RX12 206 RX12 yX12_isPiece wsX12_isPiece) := goodIn_app (goodIn_of _ (by decide +kernel)) ggX12_sure_X12_isPiece
theorem dX12_sure_0 : decode cX12_sure 0 = .ok (.aload_n 0, 1) := by decide +kernel
theorem dX12_sure_1 : decode cX12_sure 1 = .ok (.invokevirtual 203, 3) := by decide +kernel
theorem dX12_sure_4 : decode cX12_sure 4 = .ok (.aload_n 0, 1) := by decide +kernel
theorem dX12_sure_5 : decode cX12_sure 5 = .ok (.iload_n 1, 1) := by decide +kernel
theorem dX12_sure_6 : decode cX12_sure 6 = .ok (.invokevirtual 206, 3) := by decide +kernel
theorem dX12_sure_9 : decode cX12_sure 9 = .ok (.ifCond .eq 16, 3) := by decide +kernel
theorem dX12_sure_25 : decode cX12_sure 25 = .ok (.iconst (-1), 1) := by decide +kernel
theorem dX12_sure_26 : decode cX12_sure 26 = .ok (.ireturn, 1) := by decide +kernel
set_option maxRecDepth 20000 in
theorem ggX12_findHeapMiddles_X12_heapsIn : GoodIn wsX12_findHeapMiddles wsX12_heapsIn := goodIn_r _ [11] (by decide +kernel) (by decide +kernel)
set_option maxRecDepth 20000 in
theorem gX12_findHeapMiddles_X12_heapsIn : GoodIn wsX12_findHeapMiddles (va_wsS RX12 219 yX12_heapsIn wsX12_heapsIn) := goodIn_app (goodIn_of _ (by decide +kernel)) ggX12_findHeapMiddles_X12_heapsIn
theorem dX12_findHeapMiddles_0 : decode cX12_findHeapMiddles 0 = .ok (.iconst 0, 1) := by decide +kernel
theorem dX12_findHeapMiddles_1 : decode cX12_findHeapMiddles 1 = .ok (.istore_n 1, 1) := by decide +kernel
theorem dX12_findHeapMiddles_2 : decode cX12_findHeapMiddles 2 = .ok (.iload_n 1, 1) := by decide +kernel
theorem dX12_findHeapMiddles_3 : decode cX12_findHeapMiddles 3 = .ok (.aload_n 0, 1) := by decide +kernel
theorem dX12_findHeapMiddles_4 : decode cX12_findHeapMiddles 4 = .ok (.getfield 72, 3) := by decide +kernel
theorem dX12_findHeapMiddles_7 : decode cX12_findHeapMiddles 7 = .ok (.aload_n 0, 1) := by decide +kernel
theorem dX12_findHeapMiddles_8 : decode cX12_findHeapMiddles 8 = .ok (.getfield 191, 3) := by decide +kernel
theorem dX12_findHeapMiddles_11 : decode cX12_findHeapMiddles 11 = .ok (.invokestatic 219, 3) := by decide +kernel
theorem dX12_findHeapMiddles_14 : decode cX12_findHeapMiddles 14 = .ok (.if_icmp .ge 95, 3) := by decide +kernel
theorem dX12_findHeapMiddles_109 : decode cX12_findHeapMiddles 109 = .ok (.return_, 1) := by decide +kernel
set_option maxRecDepth 20000 in
theorem ggX12_wrong_X12_in : GoodIn wsX12_wrong wsX12_in := goodIn_r _ [6] (by decide +kernel) (by decide +kernel)
set_option maxRecDepth 20000 in
theorem gX12_wrong_X12_in : GoodIn wsX12_wrong (va_wsS RX12 100 yX12_in wsX12_in) := goodIn_app (goodIn_of _ (by decide +kernel)) ggX12_wrong_X12_in
set_option maxRecDepth 20000 in
theorem ggX12_wrong_X12_findBest : GoodIn wsX12_wrong wsX12_findBest := goodIn_r _ [10, 2, 11, 12, 1, 13, 14, 15, 5, 16, 17, 18, 19, 20, 21, 22, 23, 24, 25, 26, 27, 28, 29, 30, 31, 32, 33, 34, 35, 36, 37, 38, 39, 40, 41, 42, 43, 44, 45, 3, 4, 6, 46, 47, 48, 49, 50, 51, 52, 53, 54, 55, 56, 57, 58, 59, 60, 61, 62, 63, 64, 65, 66, 67, 68, 69, 70, 71, 72, 73, 74, 75, 76, 77, 78, 79, 80, 81, 87, 88, 89, 90, 91, 92, 93, 94, 95, 96, 97, 98, 99, 100, 101, 102, 103, 104, 105, 106, 107, 108, 109, 110, 111, 112, 113, 114, 115, 116, 117, 118, 119, 120, 121, 122, 123, 124, 125, 126, 127, 128, 129, 130, 131] (by decide +kernel) (by decide +kernel)
set_option maxRecDepth 20000 in
theorem gX12_wrong_X12_findBest : GoodIn wsX12_wrong (wsV RX12 240 RX12 yX12_findBest wsX12_findBest) := goodIn_app (goodIn_of _ (by decide +kernel)) ggX12_wrong_X12_findBest
set_option maxRecDepth 20000 in
theorem ggX12_wrong_X12_findHeapMiddles : GoodIn wsX12_wrong wsX12_findHeapMiddles := goodIn_r _ [85, 1, 2, 19, 45, 20, 86, 40, 79, 80, 5, 81, 46, 47, 48, 49, 35, 25, 50, 87, 88, 89, 90, 91, 92, 93, 94, 95, 96, 97, 98, 99, 100, 101, 102, 103, 104, 105, 106, 107, 108, 109, 110, 111, 112, 113, 114, 115, 116, 117, 118, 119, 120, 121, 122, 123, 124, 125, 126, 127, 128, 129, 130, 131] (by decide +kernel) (by decide +kernel)
set_option maxRecDepth 20000 in
theorem gX12_wrong_X12_findHeapMiddles : GoodIn wsX12_wrong (wsV RX12 246 RX12 yX12_findHeapMiddles wsX12_findHeapMiddles) := goodIn_app (goodIn_of _ (by decide +kernel)) ggX12_wrong_X12_findHeapMiddles
set_option maxRecDepth 20000 in
theorem ggX12_wrong_X12_heapsIn : GoodIn wsX12_wrong wsX12_heapsIn := goodIn_r _ [81] (by decide +kernel) (by decide +kernel)
set_option maxRecDepth 20000 in
theorem gX12_wrong_X12_heapsIn : GoodIn wsX12_wrong (va_wsS RX12 219 yX12_heapsIn wsX12_heapsIn) := goodIn_app (goodIn_of _ (by decide +kernel)) ggX12_wrong_X12_heapsIn
theorem dX12_wrong_0 : decode cX12_wrong 0 = .ok (.iload_n 1, 1) := by decide +kernel
theorem dX12_wrong_1 : decode cX12_wrong 1 = .ok (.iconst 0, 1) := by decide +kernel
theorem dX12_wrong_2 : decode cX12_wrong 2 = .ok (.bipush 8, 2) := by decide +kernel
theorem dX12_wrong_4 : decode cX12_wrong 4 = .ok (.invokestatic 100, 3) := by decide +kernel
theorem dX12_wrong_7 : decode cX12_wrong 7 = .ok (.ifCond .ne 5, 3) := by decide +kernel
theorem dX12_wrong_10 : decode cX12_wrong 10 = .ok (.iconst (-1), 1) := by decide +kernel
theorem dX12_wrong_11 : decode cX12_wrong 11 = .ok (.ireturn, 1) := by decide +kernel
theorem dX12_wrong_12 : decode cX12_wrong 12 = .ok (.aload_n 0, 1) := by decide +kernel
theorem dX12_wrong_13 : decode cX12_wrong 13 = .ok (.invokevirtual 240, 3) := by decide +kernel
theorem dX12_wrong_16 : decode cX12_wrong 16 = .ok (.ifCond .ne 6, 3) := by decide +kernel
theorem dX12_wrong_22 : decode cX12_wrong 22 = .ok (.aload_n 0, 1) := by decide +kernel
theorem dX12_wrong_23 : decode cX12_wrong 23 = .ok (.invokevirtual 246, 3) := by decide +kernel
theorem dX12_wrong_26 : decode cX12_wrong 26 = .ok (.iload_n 1, 1) := by decide +kernel
theorem dX12_wrong_27 : decode cX12_wrong 27 = .ok (.aload_n 0, 1) := by decide +kernel
theorem dX12_wrong_28 : decode cX12_wrong 28 = .ok (.getfield 72, 3) := by decide +kernel
theorem dX12_wrong_31 : decode cX12_wrong 31 = .ok (.aload_n 0, 1) := by decide +kernel
theorem dX12_wrong_32 : decode cX12_wrong 32 = .ok (.getfield 191, 3) := by decide +kernel
theorem dX12_wrong_35 : decode cX12_wrong 35 = .ok (.invokestatic 219, 3) := by decide +kernel
theorem dX12_wrong_38 : decode cX12_wrong 38 = .ok (.if_icmp .ge 7, 3) := by decide +kernel
theorem dX12_wrong_45 : decode cX12_wrong 45 = .ok (.iconst (-1), 1) := by decide +kernel
theorem dX12_wrong_46 : decode cX12_wrong 46 = .ok (.ireturn, 1) := by decide +kernel
set_option maxRecDepth 20000 in
theorem ggX12_middle_X12_in : GoodIn wsX12_middle wsX12_in := goodIn_r _ [5] (by decide +kernel) (by decide +kernel)
set_option maxRecDepth 20000 in
theorem gX12_middle_X12_in : GoodIn wsX12_middle (va_wsS RX12 100 yX12_in wsX12_in) := goodIn_app (goodIn_of _ (by decide +kernel)) ggX12_middle_X12_in
set_option maxRecDepth 20000 in
theorem ggX12_middle_X12_wrong : GoodIn wsX12_middle wsX12_wrong := goodIn_r _ [9, 10, 11, 2, 3, 4, 5, 12, 13, 14, 15, 16, 17, 18, 19, 20, 21, 22, 23, 24, 25, 26, 27, 28, 29, 30, 31, 32, 33, 34, 35, 36, 37, 38, 39, 40, 41, 42, 43, 44, 45, 46, 47, 48, 49, 50, 51, 52, 53, 54, 55, 56, 57, 58, 59, 60, 61, 62, 63, 64, 65, 66, 67, 68, 69, 70, 71, 72, 73, 74, 75, 76, 77, 78, 79, 80, 81, 82, 83, 84, 85, 86, 87, 88, 89, 90, 1, 91, 92, 93, 94, 95, 96, 97, 98, 99, 100, 101, 102, 103, 104, 105, 106, 107, 108, 109, 110, 111, 112, 113, 114, 115, 116, 117, 118, 119, 120, 121, 122, 123, 124, 125, 126, 127, 128, 129, 130, 131, 132, 133, 134, 135] (by decide +kernel) (by decide +kernel)
set_option maxRecDepth 20000 in
theorem gX12_middle_X12_wrong : GoodIn wsX12_middle (wsV RX12 249 RX12 yX12_wrong wsX12_wrong) := goodIn_app (goodIn_of _ (by decide +kernel)) ggX12_middle_X12_wrong
theorem dX12_middle_0 : decode cX12_middle 0 = .ok (.iload_n 2, 1) := by decide +kernel
theorem dX12_middle_1 : decode cX12_middle 1 = .ok (.iconst 0, 1) := by decide +kernel
theorem dX12_middle_2 : decode cX12_middle 2 = .ok (.iconst 3, 1) := by decide +kernel
theorem dX12_middle_3 : decode cX12_middle 3 = .ok (.invokestatic 100, 3) := by decide +kernel
theorem dX12_middle_6 : decode cX12_middle 6 = .ok (.ifCond .eq 11, 3) := by decide +kernel
theorem dX12_middle_9 : decode cX12_middle 9 = .ok (.aload_n 0, 1) := by decide +kernel
theorem dX12_middle_10 : decode cX12_middle 10 = .ok (.iload_n 1, 1) := by decide +kernel
theorem dX12_middle_11 : decode cX12_middle 11 = .ok (.invokevirtual 249, 3) := by decide +kernel
theorem dX12_middle_14 : decode cX12_middle 14 = .ok (.goto 4, 3) := by decide +kernel
theorem dX12_middle_17 : decode cX12_middle 17 = .ok (.iconst (-1), 1) := by decide +kernel
theorem dX12_middle_18 : decode cX12_middle 18 = .ok (.istore_n 3, 1) := by decide +kernel
theorem dX12_middle_19 : decode cX12_middle 19 = .ok (.iload_n 3, 1) := by decide +kernel
theorem dX12_middle_20 : decode cX12_middle 20 = .ok (.ifCond .ne 16, 3) := by decide +kernel
theorem dX12_middle_36 : decode cX12_middle 36 = .ok (.iload_n 3, 1) := by decide +kernel
theorem dX12_middle_37 : decode cX12_middle 37 = .ok (.ireturn, 1) := by decide +kernel
set_option maxRecDepth 20000 in
theorem ggX12_twice_X12_findPieces : GoodIn wsX12_twice wsX12_findPieces := goodIn_r _ [10, 5, 11, 12, 13, 14, 15, 16, 17, 9, 18, 19, 20, 21, 4, 22, 23, 24, 25, 26, 27, 28, 29, 30, 31, 1, 32, 33, 34, 35, 36, 37, 38, 39, 40, 41, 42, 43, 44, 45, 91, 92, 93, 94, 95, 96, 97, 98, 99, 100, 101, 102, 103, 104, 105, 106, 107, 108, 109, 110, 111, 112, 113, 114, 115, 116, 117, 118, 119, 120, 121, 122, 123, 124, 125, 126, 127, 128, 129, 130, 131, 132, 133, 134, 135] (by decide +kernel) (by decide +kernel)
set_option maxRecDepth 20000 in
theorem gX12_twice_X12_findPieces : GoodIn wsX12_twice (wsV RX12 203 RX12 yX12_findPieces wsX12_findPieces) := goodIn_app (goodIn_of _ (by decide +kernel)) ggX12_twice_X12_findPieces
set_option maxRecDepth 20000 in
theorem ggX12_twice_X12_isPiece : GoodIn wsX12_twice wsX12_isPiece := goodIn_r _ [49, 5, 38, 39, 9, 40, 91, 92, 93, 94, 95, 96, 97, 98, 99, 100, 101, 102, 103, 104, 105, 106, 107, 108, 109, 110, 111, 112, 113, 114, 115, 116, 117, 118, 119, 120, 121, 122, 123, 124, 125, 126, 127, 128, 129, 130, 131, 132, 133, 134, 135] (by decide +kernel) (by decide +kernel)
set_option maxRecDepth 20000 in
theorem gX12_twice_X12_isPiece : GoodIn wsX12_twice (wsV RX12 206 RX12 yX12_isPiece wsX12_isPiece) := goodIn_app (goodIn_of _ (by decide +kernel)) ggX12_twice_X12_isPiece
theorem dX12_twice_0 : decode cX12_twice 0 = .ok (.aload_n 0, 1) := by decide +kernel
theorem dX12_twice_1 : decode cX12_twice 1 = .ok (.invokevirtual 203, 3) := by decide +kernel
theorem dX12_twice_4 : decode cX12_twice 4 = .ok (.aload_n 0, 1) := by decide +kernel
theorem dX12_twice_5 : decode cX12_twice 5 = .ok (.iload_n 1, 1) := by decide +kernel
theorem dX12_twice_6 : decode cX12_twice 6 = .ok (.invokevirtual 206, 3) := by decide +kernel
theorem dX12_twice_9 : decode cX12_twice 9 = .ok (.ifCond .eq 12, 3) := by decide +kernel
theorem dX12_twice_21 : decode cX12_twice 21 = .ok (.iconst (-1), 1) := by decide +kernel
theorem dX12_twice_22 : decode cX12_twice 22 = .ok (.ireturn, 1) := by decide +kernel
set_option maxRecDepth 20000 in
theorem ggX12_keep_X12_in : GoodIn wsX12_keep wsX12_in := goodIn_r _ [8] (by decide +kernel) (by decide +kernel)
set_option maxRecDepth 20000 in
theorem gX12_keep_X12_in : GoodIn wsX12_keep (va_wsS RX12 100 yX12_in wsX12_in) := goodIn_app (goodIn_of _ (by decide +kernel)) ggX12_keep_X12_in
set_option maxRecDepth 20000 in
theorem ggX12_keep_X12_wrong : GoodIn wsX12_keep wsX12_wrong := goodIn_r _ [12, 13, 14, 5, 6, 7, 8, 15, 16, 17, 18, 19, 20, 21, 22, 23, 24, 25, 26, 27, 28, 29, 30, 31, 32, 33, 34, 35, 36, 37, 38, 39, 40, 41, 42, 43, 44, 45, 46, 47, 48, 49, 50, 51, 52, 53, 54, 55, 56, 57, 58, 59, 60, 61, 62, 63, 64, 65, 66, 67, 68, 69, 70, 71, 72, 73, 74, 75, 76, 77, 78, 79, 80, 81, 82, 83, 84, 85, 86, 87, 88, 89, 90, 91, 92, 93, 4, 94, 95, 96, 97, 98, 99, 100, 101, 102, 103, 104, 105, 106, 107, 108, 109, 110, 111, 112, 113, 114, 115, 116, 117, 118, 119, 120, 121, 122, 123, 124, 125, 126, 127, 128, 129, 130, 131, 132, 133, 134, 135, 136, 137, 138] (by decide +kernel) (by decide +kernel)
set_option maxRecDepth 20000 in
theorem gX12_keep_X12_wrong : GoodIn wsX12_keep (wsV RX12 249 RX12 yX12_wrong wsX12_wrong) := goodIn_app (goodIn_of _ (by decide +kernel)) ggX12_keep_X12_wrong
theorem dX12_keep_0 : decode cX12_keep 0 = .ok (.iload_n 2, 1) := by decide +kernel
theorem dX12_keep_1 : decode cX12_keep 1 = .ok (.iconst 1, 1) := by decide +kernel
theorem dX12_keep_2 : decode cX12_keep 2 = .ok (.bipush 99, 2) := by decide +kernel
theorem dX12_keep_4 : decode cX12_keep 4 = .ok (.invokestatic 100, 3) := by decide +kernel
theorem dX12_keep_7 : decode cX12_keep 7 = .ok (.ifCond .eq 11, 3) := by decide +kernel
theorem dX12_keep_10 : decode cX12_keep 10 = .ok (.aload_n 0, 1) := by decide +kernel
theorem dX12_keep_11 : decode cX12_keep 11 = .ok (.iload_n 1, 1) := by decide +kernel
theorem dX12_keep_12 : decode cX12_keep 12 = .ok (.invokevirtual 249, 3) := by decide +kernel
theorem dX12_keep_15 : decode cX12_keep 15 = .ok (.goto 4, 3) := by decide +kernel
theorem dX12_keep_18 : decode cX12_keep 18 = .ok (.iconst (-1), 1) := by decide +kernel
theorem dX12_keep_19 : decode cX12_keep 19 = .ok (.istore_n 3, 1) := by decide +kernel
theorem dX12_keep_20 : decode cX12_keep 20 = .ok (.iload_n 3, 1) := by decide +kernel
theorem dX12_keep_21 : decode cX12_keep 21 = .ok (.ifCond .eq 5, 3) := by decide +kernel
theorem dX12_keep_24 : decode cX12_keep 24 = .ok (.iload_n 3, 1) := by decide +kernel
theorem dX12_keep_25 : decode cX12_keep 25 = .ok (.ireturn, 1) := by decide +kernel
set_option maxRecDepth 20000 in
theorem ggX12_forget_X12_in : GoodIn wsX12_forget wsX12_in := goodIn_r _ [7] (by decide +kernel) (by decide +kernel)
set_option maxRecDepth 20000 in
theorem gX12_forget_X12_in : GoodIn wsX12_forget (va_wsS RX12 100 yX12_in wsX12_in) := goodIn_app (goodIn_of _ (by decide +kernel)) ggX12_forget_X12_in
theorem dX12_forget_0 : decode cX12_forget 0 = .ok (.iload_n 1, 1) := by decide +kernel
theorem dX12_forget_1 : decode cX12_forget 1 = .ok (.iconst 0, 1) := by decide +kernel
theorem dX12_forget_2 : decode cX12_forget 2 = .ok (.aload_n 0, 1) := by decide +kernel
theorem dX12_forget_3 : decode cX12_forget 3 = .ok (.getfield 252, 3) := by decide +kernel
theorem dX12_forget_6 : decode cX12_forget 6 = .ok (.iconst 1, 1) := by decide +kernel
theorem dX12_forget_7 : decode cX12_forget 7 = .ok (.isub, 1) := by decide +kernel
theorem dX12_forget_8 : decode cX12_forget 8 = .ok (.invokestatic 100, 3) := by decide +kernel
theorem dX12_forget_11 : decode cX12_forget 11 = .ok (.ifCond .ne 5, 3) := by decide +kernel
theorem dX12_forget_14 : decode cX12_forget 14 = .ok (.iconst (-1), 1) := by decide +kernel
theorem dX12_forget_15 : decode cX12_forget 15 = .ok (.ireturn, 1) := by decide +kernel
set_option maxRecDepth 20000 in
theorem ggX12_back_X12_in : GoodIn wsX12_back wsX12_in := goodIn_r _ [9] (by decide +kernel) (by decide +kernel)
set_option maxRecDepth 20000 in
theorem gX12_back_X12_in : GoodIn wsX12_back (va_wsS RX12 100 yX12_in wsX12_in) := goodIn_app (goodIn_of _ (by decide +kernel)) ggX12_back_X12_in
set_option maxRecDepth 20000 in
theorem ggX12_back_X12_wrong : GoodIn wsX12_back wsX12_wrong := goodIn_r _ [13, 14, 15, 6, 7, 8, 9, 16, 17, 18, 19, 20, 21, 22, 23, 24, 25, 26, 27, 28, 29, 30, 31, 32, 33, 34, 35, 36, 1, 37, 38, 39, 40, 41, 42, 43, 44, 45, 46, 47, 48, 49, 50, 51, 52, 53, 54, 55, 56, 57, 58, 59, 60, 61, 62, 63, 64, 65, 66, 67, 68, 69, 70, 71, 72, 73, 74, 75, 76, 77, 78, 79, 80, 81, 82, 83, 84, 85, 86, 87, 88, 89, 90, 91, 92, 93, 3, 94, 95, 96, 97, 98, 99, 100, 101, 102, 103, 104, 105, 106, 107, 108, 109, 110, 111, 112, 113, 114, 115, 116, 117, 118, 119, 120, 121, 122, 123, 124, 125, 126, 127, 128, 129, 130, 131, 132, 133, 134, 135, 136, 137, 138] (by decide +kernel) (by decide +kernel)
set_option maxRecDepth 20000 in
theorem gX12_back_X12_wrong : GoodIn wsX12_back (wsV RX12 249 RX12 yX12_wrong wsX12_wrong) := goodIn_app (goodIn_of _ (by decide +kernel)) ggX12_back_X12_wrong
theorem dX12_back_0 : decode cX12_back 0 = .ok (.iload_n 2, 1) := by decide +kernel
theorem dX12_back_1 : decode cX12_back 1 = .ok (.iconst 0, 1) := by decide +kernel
theorem dX12_back_2 : decode cX12_back 2 = .ok (.iconst 1, 1) := by decide +kernel
theorem dX12_back_3 : decode cX12_back 3 = .ok (.invokestatic 100, 3) := by decide +kernel
theorem dX12_back_6 : decode cX12_back 6 = .ok (.ifCond .eq 11, 3) := by decide +kernel
theorem dX12_back_9 : decode cX12_back 9 = .ok (.aload_n 0, 1) := by decide +kernel
theorem dX12_back_10 : decode cX12_back 10 = .ok (.iload_n 1, 1) := by decide +kernel
theorem dX12_back_11 : decode cX12_back 11 = .ok (.invokevirtual 249, 3) := by decide +kernel
theorem dX12_back_14 : decode cX12_back 14 = .ok (.goto 4, 3) := by decide +kernel
theorem dX12_back_17 : decode cX12_back 17 = .ok (.iconst (-1), 1) := by decide +kernel
theorem dX12_back_18 : decode cX12_back 18 = .ok (.istore_n 3, 1) := by decide +kernel
theorem dX12_back_19 : decode cX12_back 19 = .ok (.iload_n 3, 1) := by decide +kernel
theorem dX12_back_20 : decode cX12_back 20 = .ok (.ifCond .eq 5, 3) := by decide +kernel
theorem dX12_back_23 : decode cX12_back 23 = .ok (.iload_n 3, 1) := by decide +kernel
theorem dX12_back_24 : decode cX12_back 24 = .ok (.ireturn, 1) := by decide +kernel
set_option maxRecDepth 20000 in
theorem ggX12_odds_X12_in : GoodIn wsX12_odds wsX12_in := goodIn_r _ [7] (by decide +kernel) (by decide +kernel)
set_option maxRecDepth 20000 in
theorem gX12_odds_X12_in : GoodIn wsX12_odds (va_wsS RX12 100 yX12_in wsX12_in) := goodIn_app (goodIn_of _ (by decide +kernel)) ggX12_odds_X12_in
theorem dX12_odds_0 : decode cX12_odds 0 = .ok (.iload_n 2, 1) := by decide +kernel
theorem dX12_odds_1 : decode cX12_odds 1 = .ok (.iconst 0, 1) := by decide +kernel
theorem dX12_odds_2 : decode cX12_odds 2 = .ok (.aload_n 0, 1) := by decide +kernel
theorem dX12_odds_3 : decode cX12_odds 3 = .ok (.getfield 252, 3) := by decide +kernel
theorem dX12_odds_6 : decode cX12_odds 6 = .ok (.iconst 1, 1) := by decide +kernel
theorem dX12_odds_7 : decode cX12_odds 7 = .ok (.isub, 1) := by decide +kernel
theorem dX12_odds_8 : decode cX12_odds 8 = .ok (.invokestatic 100, 3) := by decide +kernel
theorem dX12_odds_11 : decode cX12_odds 11 = .ok (.ifCond .eq 20, 3) := by decide +kernel
theorem dX12_odds_31 : decode cX12_odds 31 = .ok (.iconst (-1), 1) := by decide +kernel
theorem dX12_odds_32 : decode cX12_odds 32 = .ok (.istore 4, 2) := by decide +kernel
theorem dX12_odds_34 : decode cX12_odds 34 = .ok (.iload 4, 2) := by decide +kernel
theorem dX12_odds_36 : decode cX12_odds 36 = .ok (.ifCond .eq 6, 3) := by decide +kernel
theorem dX12_odds_39 : decode cX12_odds 39 = .ok (.iload 4, 2) := by decide +kernel
theorem dX12_odds_41 : decode cX12_odds 41 = .ok (.ireturn, 1) := by decide +kernel
set_option maxRecDepth 20000 in
theorem ggX12_show_X12_findBest : GoodIn wsX12_show wsX12_findBest := goodIn_r _ [9, 10, 11, 12, 13, 14, 15, 16, 8, 17, 18, 19, 1, 20, 21, 22, 23, 24, 25, 26, 27, 28, 29, 30, 31, 32, 33, 34, 35, 36, 37, 38, 39, 40, 41, 42, 43, 44, 45, 46, 47, 48, 49, 50, 51, 52, 53, 54, 55, 56, 57, 58, 59, 60, 61, 62, 63, 64, 65, 66, 67, 68, 69, 70, 71, 72, 73, 74, 75, 76, 77, 78, 79, 80, 81, 82, 83, 84, 89, 90, 91, 92, 93, 94, 95, 96, 97, 98, 99, 100, 101, 102, 103, 104, 105, 106, 107, 108, 109, 110, 111, 112, 113, 114, 115, 116, 117, 118, 119, 120, 121, 122, 123, 124, 125, 126, 127, 128, 129, 130, 131, 132, 133] (by decide +kernel) (by decide +kernel)
set_option maxRecDepth 20000 in
theorem gX12_show_X12_findBest : GoodIn wsX12_show (wsV RX12 240 RX12 yX12_findBest wsX12_findBest) := goodIn_app (goodIn_of _ (by decide +kernel)) ggX12_show_X12_findBest
theorem dX12_show_0 : decode cX12_show 0 = .ok (.aload_n 0, 1) := by decide +kernel
theorem dX12_show_1 : decode cX12_show 1 = .ok (.invokevirtual 240, 3) := by decide +kernel
theorem dX12_show_4 : decode cX12_show 4 = .ok (.ifCond .ne 6, 3) := by decide +kernel
theorem dX12_show_10 : decode cX12_show 10 = .ok (.iconst 0, 1) := by decide +kernel
theorem dX12_show_11 : decode cX12_show 11 = .ok (.istore_n 1, 1) := by decide +kernel
theorem dX12_show_12 : decode cX12_show 12 = .ok (.iload_n 1, 1) := by decide +kernel
theorem dX12_show_13 : decode cX12_show 13 = .ok (.aload_n 0, 1) := by decide +kernel
theorem dX12_show_14 : decode cX12_show 14 = .ok (.getfield 156, 3) := by decide +kernel
theorem dX12_show_17 : decode cX12_show 17 = .ok (.if_icmp .ge 20, 3) := by decide +kernel
theorem dX12_show_37 : decode cX12_show 37 = .ok (.aload_n 0, 1) := by decide +kernel
theorem dX12_show_38 : decode cX12_show 38 = .ok (.aload_n 0, 1) := by decide +kernel
theorem dX12_show_39 : decode cX12_show 39 = .ok (.getfield 156, 3) := by decide +kernel
theorem dX12_show_42 : decode cX12_show 42 = .ok (.putfield 264, 3) := by decide +kernel
theorem dX12_show_45 : decode cX12_show 45 = .ok (.aload_n 0, 1) := by decide +kernel
theorem dX12_show_46 : decode cX12_show 46 = .ok (.iconst 1, 1) := by decide +kernel
theorem dX12_show_47 : decode cX12_show 47 = .ok (.putfield 174, 3) := by decide +kernel
theorem dX12_show_50 : decode cX12_show 50 = .ok (.aload_n 0, 1) := by decide +kernel
theorem dX12_show_51 : decode cX12_show 51 = .ok (.getfield 156, 3) := by decide +kernel
theorem dX12_show_54 : decode cX12_show 54 = .ok (.ireturn, 1) := by decide +kernel
theorem dX12_otherwise_0 : decode cX12_otherwise 0 = .ok (.aload_n 0, 1) := by decide +kernel
theorem dX12_otherwise_1 : decode cX12_otherwise 1 = .ok (.getfield 174, 3) := by decide +kernel
theorem dX12_otherwise_4 : decode cX12_otherwise 4 = .ok (.ifCond .eq 10, 3) := by decide +kernel
theorem dX12_otherwise_14 : decode cX12_otherwise 14 = .ok (.bipush (-2), 2) := by decide +kernel
theorem dX12_otherwise_16 : decode cX12_otherwise 16 = .ok (.ireturn, 1) := by decide +kernel
set_option maxRecDepth 20000 in
theorem ggX12_word_X12_areRows : GoodIn wsX12_word wsX12_areRows := goodIn_r _ [8, 9, 10, 11, 12, 7, 13, 14, 15, 16, 17, 18, 19, 20, 21, 22, 23, 24, 25, 26, 27, 28, 29, 30, 31, 32, 33, 34, 35, 36, 37, 38, 39, 40, 41, 42, 43, 44, 45, 46, 47, 48, 49, 50, 51, 52, 53, 54, 55, 56, 57, 58, 59, 60, 61] (by decide +kernel) (by decide +kernel)
set_option maxRecDepth 20000 in
theorem gX12_word_X12_areRows : GoodIn wsX12_word (wsV RX12 167 RX12 yX12_areRows wsX12_areRows) := goodIn_app (goodIn_of _ (by decide +kernel)) ggX12_word_X12_areRows
theorem dX12_word_0 : decode cX12_word 0 = .ok (.aload_n 0, 1) := by decide +kernel
theorem dX12_word_1 : decode cX12_word 1 = .ok (.iload_n 1, 1) := by decide +kernel
theorem dX12_word_2 : decode cX12_word 2 = .ok (.iload_n 2, 1) := by decide +kernel
theorem dX12_word_3 : decode cX12_word 3 = .ok (.invokevirtual 167, 3) := by decide +kernel
theorem dX12_word_6 : decode cX12_word 6 = .ok (.ifCond .ne 5, 3) := by decide +kernel
theorem dX12_word_9 : decode cX12_word 9 = .ok (.iconst (-1), 1) := by decide +kernel
theorem dX12_word_10 : decode cX12_word 10 = .ok (.ireturn, 1) := by decide +kernel
set_option maxRecDepth 20000 in
theorem ggX12_hung_X12_in : GoodIn wsX12_hung wsX12_in := goodIn_r _ [10] (by decide +kernel) (by decide +kernel)
set_option maxRecDepth 20000 in
theorem gX12_hung_X12_in : GoodIn wsX12_hung (va_wsS RX12 100 yX12_in wsX12_in) := goodIn_app (goodIn_of _ (by decide +kernel)) ggX12_hung_X12_in
theorem dX12_hung_0 : decode cX12_hung 0 = .ok (.iload_n 1, 1) := by decide +kernel
theorem dX12_hung_1 : decode cX12_hung 1 = .ok (.iconst 0, 1) := by decide +kernel
theorem dX12_hung_2 : decode cX12_hung 2 = .ok (.aload_n 0, 1) := by decide +kernel
theorem dX12_hung_3 : decode cX12_hung 3 = .ok (.getfield 171, 3) := by decide +kernel
theorem dX12_hung_6 : decode cX12_hung 6 = .ok (.iconst 1, 1) := by decide +kernel
theorem dX12_hung_7 : decode cX12_hung 7 = .ok (.isub, 1) := by decide +kernel
theorem dX12_hung_8 : decode cX12_hung 8 = .ok (.invokestatic 100, 3) := by decide +kernel
theorem dX12_hung_11 : decode cX12_hung 11 = .ok (.ifCond .eq 12, 3) := by decide +kernel
theorem dX12_hung_23 : decode cX12_hung 23 = .ok (.iconst (-1), 1) := by decide +kernel
theorem dX12_hung_24 : decode cX12_hung 24 = .ok (.ireturn, 1) := by decide +kernel
set_option maxRecDepth 20000 in
theorem ggX12_truth_X12_areRows : GoodIn wsX12_truth wsX12_areRows := goodIn_r _ [6, 7, 8, 9, 10, 5, 11, 12, 13, 14, 15, 16, 17, 18, 19, 20, 21, 22, 23, 24, 25, 26, 27, 28, 29, 30, 31, 32, 33, 34, 35, 36, 37, 38, 39, 40, 41, 42, 43, 44, 45, 46, 47, 48, 49, 50, 51, 52, 53, 54, 55, 56, 57, 58, 59] (by decide +kernel) (by decide +kernel)
set_option maxRecDepth 20000 in
theorem gX12_truth_X12_areRows : GoodIn wsX12_truth (wsV RX12 167 RX12 yX12_areRows wsX12_areRows) := goodIn_app (goodIn_of _ (by decide +kernel)) ggX12_truth_X12_areRows
theorem dX12_truth_0 : decode cX12_truth 0 = .ok (.aload_n 0, 1) := by decide +kernel
theorem dX12_truth_1 : decode cX12_truth 1 = .ok (.iload_n 1, 1) := by decide +kernel
theorem dX12_truth_2 : decode cX12_truth 2 = .ok (.iload_n 2, 1) := by decide +kernel
theorem dX12_truth_3 : decode cX12_truth 3 = .ok (.invokevirtual 167, 3) := by decide +kernel
theorem dX12_truth_6 : decode cX12_truth 6 = .ok (.ifCond .eq 12, 3) := by decide +kernel
theorem dX12_truth_18 : decode cX12_truth 18 = .ok (.iconst (-1), 1) := by decide +kernel
theorem dX12_truth_19 : decode cX12_truth 19 = .ok (.ireturn, 1) := by decide +kernel
theorem dX12_mostRight_0 : decode cX12_mostRight 0 = .ok (.iconst 0, 1) := by decide +kernel
theorem dX12_mostRight_1 : decode cX12_mostRight 1 = .ok (.istore_n 1, 1) := by decide +kernel
theorem dX12_mostRight_2 : decode cX12_mostRight 2 = .ok (.iload_n 1, 1) := by decide +kernel
theorem dX12_mostRight_3 : decode cX12_mostRight 3 = .ok (.bipush 54, 2) := by decide +kernel
theorem dX12_mostRight_5 : decode cX12_mostRight 5 = .ok (.if_icmp .ge 16, 3) := by decide +kernel
theorem dX12_mostRight_8 : decode cX12_mostRight 8 = .ok (.aload_n 0, 1) := by decide +kernel
theorem dX12_mostRight_9 : decode cX12_mostRight 9 = .ok (.getfield 93, 3) := by decide +kernel
theorem dX12_mostRight_12 : decode cX12_mostRight 12 = .ok (.iload_n 1, 1) := by decide +kernel
theorem dX12_mostRight_13 : decode cX12_mostRight 13 = .ok (.iconst 0, 1) := by decide +kernel
theorem dX12_mostRight_14 : decode cX12_mostRight 14 = .ok (.iastore, 1) := by decide +kernel
theorem dX12_mostRight_15 : decode cX12_mostRight 15 = .ok (.iinc 1 1, 3) := by decide +kernel
theorem dX12_mostRight_18 : decode cX12_mostRight 18 = .ok (.goto (-16), 3) := by decide +kernel
theorem dX12_mostRight_21 : decode cX12_mostRight 21 = .ok (.iconst 0, 1) := by decide +kernel
theorem dX12_mostRight_22 : decode cX12_mostRight 22 = .ok (.istore_n 1, 1) := by decide +kernel
theorem dX12_mostRight_23 : decode cX12_mostRight 23 = .ok (.iload_n 1, 1) := by decide +kernel
theorem dX12_mostRight_24 : decode cX12_mostRight 24 = .ok (.aload_n 0, 1) := by decide +kernel
theorem dX12_mostRight_25 : decode cX12_mostRight 25 = .ok (.getfield 156, 3) := by decide +kernel
theorem dX12_mostRight_28 : decode cX12_mostRight 28 = .ok (.if_icmp .ge 53, 3) := by decide +kernel
theorem dX12_mostRight_81 : decode cX12_mostRight 81 = .ok (.iconst 0, 1) := by decide +kernel
theorem dX12_mostRight_82 : decode cX12_mostRight 82 = .ok (.istore_n 1, 1) := by decide +kernel
theorem dX12_mostRight_83 : decode cX12_mostRight 83 = .ok (.iload_n 1, 1) := by decide +kernel
theorem dX12_mostRight_84 : decode cX12_mostRight 84 = .ok (.sipush 512, 3) := by decide +kernel
theorem dX12_mostRight_87 : decode cX12_mostRight 87 = .ok (.if_icmp .ge 16, 3) := by decide +kernel
theorem dX12_mostRight_90 : decode cX12_mostRight 90 = .ok (.aload_n 0, 1) := by decide +kernel
theorem dX12_mostRight_91 : decode cX12_mostRight 91 = .ok (.getfield 90, 3) := by decide +kernel
theorem dX12_mostRight_94 : decode cX12_mostRight 94 = .ok (.iload_n 1, 1) := by decide +kernel
theorem dX12_mostRight_95 : decode cX12_mostRight 95 = .ok (.iconst 0, 1) := by decide +kernel
theorem dX12_mostRight_96 : decode cX12_mostRight 96 = .ok (.iastore, 1) := by decide +kernel
theorem dX12_mostRight_97 : decode cX12_mostRight 97 = .ok (.iinc 1 1, 3) := by decide +kernel
theorem dX12_mostRight_100 : decode cX12_mostRight 100 = .ok (.goto (-17), 3) := by decide +kernel
theorem dX12_mostRight_103 : decode cX12_mostRight 103 = .ok (.iconst 1, 1) := by decide +kernel
theorem dX12_mostRight_104 : decode cX12_mostRight 104 = .ok (.istore_n 1, 1) := by decide +kernel
theorem dX12_mostRight_105 : decode cX12_mostRight 105 = .ok (.iload_n 1, 1) := by decide +kernel
theorem dX12_mostRight_106 : decode cX12_mostRight 106 = .ok (.bipush 6, 2) := by decide +kernel
theorem dX12_mostRight_108 : decode cX12_mostRight 108 = .ok (.if_icmp .ge 131, 3) := by decide +kernel
theorem dX12_mostRight_111 : decode cX12_mostRight 111 = .ok (.iconst 0, 1) := by decide +kernel
theorem dX12_mostRight_112 : decode cX12_mostRight 112 = .ok (.istore_n 2, 1) := by decide +kernel
theorem dX12_mostRight_113 : decode cX12_mostRight 113 = .ok (.iload_n 2, 1) := by decide +kernel
theorem dX12_mostRight_114 : decode cX12_mostRight 114 = .ok (.sipush 512, 3) := by decide +kernel
theorem dX12_mostRight_117 : decode cX12_mostRight 117 = .ok (.if_icmp .ge 116, 3) := by decide +kernel
theorem dX12_mostRight_120 : decode cX12_mostRight 120 = .ok (.aload_n 0, 1) := by decide +kernel
theorem dX12_mostRight_121 : decode cX12_mostRight 121 = .ok (.getfield 90, 3) := by decide +kernel
theorem dX12_mostRight_124 : decode cX12_mostRight 124 = .ok (.sipush 512, 3) := by decide +kernel
theorem dX12_mostRight_127 : decode cX12_mostRight 127 = .ok (.iload_n 1, 1) := by decide +kernel
theorem dX12_mostRight_128 : decode cX12_mostRight 128 = .ok (.iconst 1, 1) := by decide +kernel
theorem dX12_mostRight_129 : decode cX12_mostRight 129 = .ok (.isub, 1) := by decide +kernel
theorem dX12_mostRight_130 : decode cX12_mostRight 130 = .ok (.imul, 1) := by decide +kernel
theorem dX12_mostRight_131 : decode cX12_mostRight 131 = .ok (.iload_n 2, 1) := by decide +kernel
theorem dX12_mostRight_132 : decode cX12_mostRight 132 = .ok (.iadd, 1) := by decide +kernel
theorem dX12_mostRight_133 : decode cX12_mostRight 133 = .ok (.iaload, 1) := by decide +kernel
theorem dX12_mostRight_134 : decode cX12_mostRight 134 = .ok (.istore_n 3, 1) := by decide +kernel
theorem dX12_mostRight_135 : decode cX12_mostRight 135 = .ok (.iconst 0, 1) := by decide +kernel
theorem dX12_mostRight_136 : decode cX12_mostRight 136 = .ok (.istore 4, 2) := by decide +kernel
theorem dX12_mostRight_138 : decode cX12_mostRight 138 = .ok (.iload 4, 2) := by decide +kernel
theorem dX12_mostRight_140 : decode cX12_mostRight 140 = .ok (.bipush 9, 2) := by decide +kernel
theorem dX12_mostRight_142 : decode cX12_mostRight 142 = .ok (.if_icmp .ge 72, 3) := by decide +kernel
theorem dX12_mostRight_145 : decode cX12_mostRight 145 = .ok (.iload_n 2, 1) := by decide +kernel
theorem dX12_mostRight_146 : decode cX12_mostRight 146 = .ok (.iload 4, 2) := by decide +kernel
theorem dX12_mostRight_148 : decode cX12_mostRight 148 = .ok (.ishr, 1) := by decide +kernel
theorem dX12_mostRight_149 : decode cX12_mostRight 149 = .ok (.iconst 1, 1) := by decide +kernel
theorem dX12_mostRight_150 : decode cX12_mostRight 150 = .ok (.iand, 1) := by decide +kernel
theorem dX12_mostRight_151 : decode cX12_mostRight 151 = .ok (.iconst 1, 1) := by decide +kernel
theorem dX12_mostRight_152 : decode cX12_mostRight 152 = .ok (.if_icmp .ne 40, 3) := by decide +kernel
theorem dX12_mostRight_155 : decode cX12_mostRight 155 = .ok (.aload_n 0, 1) := by decide +kernel
theorem dX12_mostRight_156 : decode cX12_mostRight 156 = .ok (.getfield 90, 3) := by decide +kernel
theorem dX12_mostRight_159 : decode cX12_mostRight 159 = .ok (.sipush 512, 3) := by decide +kernel
theorem dX12_mostRight_162 : decode cX12_mostRight 162 = .ok (.iload_n 1, 1) := by decide +kernel
theorem dX12_mostRight_163 : decode cX12_mostRight 163 = .ok (.iconst 1, 1) := by decide +kernel
theorem dX12_mostRight_164 : decode cX12_mostRight 164 = .ok (.isub, 1) := by decide +kernel
theorem dX12_mostRight_165 : decode cX12_mostRight 165 = .ok (.imul, 1) := by decide +kernel
theorem dX12_mostRight_166 : decode cX12_mostRight 166 = .ok (.iload_n 2, 1) := by decide +kernel
theorem dX12_mostRight_167 : decode cX12_mostRight 167 = .ok (.iconst 1, 1) := by decide +kernel
theorem dX12_mostRight_168 : decode cX12_mostRight 168 = .ok (.iload 4, 2) := by decide +kernel
theorem dX12_mostRight_170 : decode cX12_mostRight 170 = .ok (.ishl, 1) := by decide +kernel
theorem dX12_mostRight_171 : decode cX12_mostRight 171 = .ok (.iconst (-1), 1) := by decide +kernel
theorem dX12_mostRight_172 : decode cX12_mostRight 172 = .ok (.ixor, 1) := by decide +kernel
theorem dX12_mostRight_173 : decode cX12_mostRight 173 = .ok (.iand, 1) := by decide +kernel
theorem dX12_mostRight_174 : decode cX12_mostRight 174 = .ok (.iadd, 1) := by decide +kernel
theorem dX12_mostRight_175 : decode cX12_mostRight 175 = .ok (.iaload, 1) := by decide +kernel
theorem dX12_mostRight_176 : decode cX12_mostRight 176 = .ok (.aload_n 0, 1) := by decide +kernel
theorem dX12_mostRight_177 : decode cX12_mostRight 177 = .ok (.getfield 93, 3) := by decide +kernel
theorem dX12_mostRight_180 : decode cX12_mostRight 180 = .ok (.bipush 9, 2) := by decide +kernel
theorem dX12_mostRight_182 : decode cX12_mostRight 182 = .ok (.iload_n 1, 1) := by decide +kernel
theorem dX12_mostRight_183 : decode cX12_mostRight 183 = .ok (.imul, 1) := by decide +kernel
theorem dX12_mostRight_184 : decode cX12_mostRight 184 = .ok (.iload 4, 2) := by decide +kernel
theorem dX12_mostRight_186 : decode cX12_mostRight 186 = .ok (.iadd, 1) := by decide +kernel
theorem dX12_mostRight_187 : decode cX12_mostRight 187 = .ok (.iaload, 1) := by decide +kernel
theorem dX12_mostRight_188 : decode cX12_mostRight 188 = .ok (.iadd, 1) := by decide +kernel
theorem dX12_mostRight_189 : decode cX12_mostRight 189 = .ok (.goto 4, 3) := by decide +kernel
theorem dX12_mostRight_192 : decode cX12_mostRight 192 = .ok (.iconst 0, 1) := by decide +kernel
theorem dX12_mostRight_193 : decode cX12_mostRight 193 = .ok (.istore 5, 2) := by decide +kernel
theorem dX12_mostRight_195 : decode cX12_mostRight 195 = .ok (.iload 5, 2) := by decide +kernel
theorem dX12_mostRight_197 : decode cX12_mostRight 197 = .ok (.iload_n 3, 1) := by decide +kernel
theorem dX12_mostRight_198 : decode cX12_mostRight 198 = .ok (.if_icmp .le 8, 3) := by decide +kernel
theorem dX12_mostRight_206 : decode cX12_mostRight 206 = .ok (.iload_n 3, 1) := by decide +kernel
theorem dX12_mostRight_207 : decode cX12_mostRight 207 = .ok (.istore_n 3, 1) := by decide +kernel
theorem dX12_mostRight_208 : decode cX12_mostRight 208 = .ok (.iinc 4 1, 3) := by decide +kernel
theorem dX12_mostRight_211 : decode cX12_mostRight 211 = .ok (.goto (-73), 3) := by decide +kernel
theorem dX12_mostRight_214 : decode cX12_mostRight 214 = .ok (.aload_n 0, 1) := by decide +kernel
theorem dX12_mostRight_215 : decode cX12_mostRight 215 = .ok (.getfield 90, 3) := by decide +kernel
theorem dX12_mostRight_218 : decode cX12_mostRight 218 = .ok (.sipush 512, 3) := by decide +kernel
theorem dX12_mostRight_221 : decode cX12_mostRight 221 = .ok (.iload_n 1, 1) := by decide +kernel
theorem dX12_mostRight_222 : decode cX12_mostRight 222 = .ok (.imul, 1) := by decide +kernel
theorem dX12_mostRight_223 : decode cX12_mostRight 223 = .ok (.iload_n 2, 1) := by decide +kernel
theorem dX12_mostRight_224 : decode cX12_mostRight 224 = .ok (.iadd, 1) := by decide +kernel
theorem dX12_mostRight_225 : decode cX12_mostRight 225 = .ok (.iload_n 3, 1) := by decide +kernel
theorem dX12_mostRight_226 : decode cX12_mostRight 226 = .ok (.iastore, 1) := by decide +kernel
theorem dX12_mostRight_227 : decode cX12_mostRight 227 = .ok (.iinc 2 1, 3) := by decide +kernel
theorem dX12_mostRight_230 : decode cX12_mostRight 230 = .ok (.goto (-117), 3) := by decide +kernel
theorem dX12_mostRight_233 : decode cX12_mostRight 233 = .ok (.iinc 1 1, 3) := by decide +kernel
theorem dX12_mostRight_236 : decode cX12_mostRight 236 = .ok (.goto (-131), 3) := by decide +kernel
theorem dX12_mostRight_239 : decode cX12_mostRight 239 = .ok (.aload_n 0, 1) := by decide +kernel
theorem dX12_mostRight_240 : decode cX12_mostRight 240 = .ok (.getfield 90, 3) := by decide +kernel
theorem dX12_mostRight_243 : decode cX12_mostRight 243 = .ok (.sipush 3071, 3) := by decide +kernel
theorem dX12_mostRight_246 : decode cX12_mostRight 246 = .ok (.iaload, 1) := by decide +kernel
theorem dX12_mostRight_247 : decode cX12_mostRight 247 = .ok (.ireturn, 1) := by decide +kernel
set_option maxRecDepth 20000 in
theorem ggX12_errors_X12_in : GoodIn wsX12_errors wsX12_in := goodIn_r _ [7] (by decide +kernel) (by decide +kernel)
set_option maxRecDepth 20000 in
theorem gX12_errors_X12_in : GoodIn wsX12_errors (va_wsS RX12 100 yX12_in wsX12_in) := goodIn_app (goodIn_of _ (by decide +kernel)) ggX12_errors_X12_in
set_option maxRecDepth 20000 in
theorem ggX12_errors_X12_findPieces : GoodIn wsX12_errors wsX12_findPieces := goodIn_r _ [11, 12, 13, 14, 1, 2, 15, 16, 17, 6, 18, 19, 20, 21, 22, 23, 24, 25, 26, 27, 28, 29, 30, 31, 32, 33, 34, 35, 36, 37, 38, 39, 4, 5, 7, 40, 41, 42, 43, 44, 93, 94, 95, 96, 97, 98, 99, 100, 101, 102, 103, 104, 105, 106, 107, 108, 109, 110, 111, 112, 113, 114, 115, 116, 117, 118, 119, 120, 121, 122, 123, 124, 125, 126, 127, 128, 129, 130, 131, 132, 133, 134, 135, 136, 137] (by decide +kernel) (by decide +kernel)
set_option maxRecDepth 20000 in
theorem gX12_errors_X12_findPieces : GoodIn wsX12_errors (wsV RX12 203 RX12 yX12_findPieces wsX12_findPieces) := goodIn_app (goodIn_of _ (by decide +kernel)) ggX12_errors_X12_findPieces
set_option maxRecDepth 20000 in
theorem ggX12_errors_X12_findBest : GoodIn wsX12_errors wsX12_findBest := goodIn_r _ [48, 12, 49, 50, 51, 8, 9, 10, 6, 11, 13, 14, 1, 2, 15, 16, 17, 18, 19, 20, 21, 22, 23, 24, 25, 26, 27, 28, 29, 30, 31, 32, 33, 34, 35, 36, 37, 38, 39, 4, 5, 7, 40, 41, 42, 43, 44, 52, 53, 54, 55, 56, 57, 58, 59, 60, 61, 62, 63, 64, 65, 66, 67, 68, 69, 70, 71, 72, 73, 74, 75, 76, 77, 78, 79, 80, 81, 82, 93, 94, 95, 96, 97, 98, 99, 100, 101, 102, 103, 104, 105, 106, 107, 108, 109, 110, 111, 112, 113, 114, 115, 116, 117, 118, 119, 120, 121, 122, 123, 124, 125, 126, 127, 128, 129, 130, 131, 132, 133, 134, 135, 136, 137] (by decide +kernel) (by decide +kernel)
set_option maxRecDepth 20000 in
theorem gX12_errors_X12_findBest : GoodIn wsX12_errors (wsV RX12 240 RX12 yX12_findBest wsX12_findBest) := goodIn_app (goodIn_of _ (by decide +kernel)) ggX12_errors_X12_findBest
set_option maxRecDepth 20000 in
theorem ggX12_errors_X12_mostRight : GoodIn wsX12_errors wsX12_mostRight := goodIn_r _ [86, 87, 1, 2, 3, 88, 89, 90, 91, 6, 92, 51, 93, 94, 95, 96, 97, 98, 99, 100, 101, 102, 103, 104, 105, 106, 107, 108, 109, 110, 111, 112, 113, 114, 115, 116, 117, 118, 119, 120, 121, 122, 123, 124, 125, 126, 127, 128, 129, 130, 131, 132, 133, 134, 135, 136, 137] (by decide +kernel) (by decide +kernel)
set_option maxRecDepth 20000 in
theorem gX12_errors_X12_mostRight : GoodIn wsX12_errors (wsV RX12 267 RX12 yX12_mostRight wsX12_mostRight) := goodIn_app (goodIn_of _ (by decide +kernel)) ggX12_errors_X12_mostRight
theorem dX12_errors_0 : decode cX12_errors 0 = .ok (.iload_n 1, 1) := by decide +kernel
theorem dX12_errors_1 : decode cX12_errors 1 = .ok (.iconst 0, 1) := by decide +kernel
theorem dX12_errors_2 : decode cX12_errors 2 = .ok (.iconst 2, 1) := by decide +kernel
theorem dX12_errors_3 : decode cX12_errors 3 = .ok (.invokestatic 100, 3) := by decide +kernel
theorem dX12_errors_6 : decode cX12_errors 6 = .ok (.ifCond .ne 5, 3) := by decide +kernel
theorem dX12_errors_9 : decode cX12_errors 9 = .ok (.iconst (-1), 1) := by decide +kernel
theorem dX12_errors_10 : decode cX12_errors 10 = .ok (.ireturn, 1) := by decide +kernel
theorem dX12_errors_11 : decode cX12_errors 11 = .ok (.aload_n 0, 1) := by decide +kernel
theorem dX12_errors_12 : decode cX12_errors 12 = .ok (.invokevirtual 203, 3) := by decide +kernel
theorem dX12_errors_15 : decode cX12_errors 15 = .ok (.iconst 0, 1) := by decide +kernel
theorem dX12_errors_16 : decode cX12_errors 16 = .ok (.istore_n 2, 1) := by decide +kernel
theorem dX12_errors_17 : decode cX12_errors 17 = .ok (.iconst 0, 1) := by decide +kernel
theorem dX12_errors_18 : decode cX12_errors 18 = .ok (.istore_n 3, 1) := by decide +kernel
theorem dX12_errors_19 : decode cX12_errors 19 = .ok (.iconst 0, 1) := by decide +kernel
theorem dX12_errors_20 : decode cX12_errors 20 = .ok (.istore 4, 2) := by decide +kernel
theorem dX12_errors_22 : decode cX12_errors 22 = .ok (.iconst 0, 1) := by decide +kernel
theorem dX12_errors_23 : decode cX12_errors 23 = .ok (.istore 5, 2) := by decide +kernel
theorem dX12_errors_25 : decode cX12_errors 25 = .ok (.iload 5, 2) := by decide +kernel
theorem dX12_errors_27 : decode cX12_errors 27 = .ok (.aload_n 0, 1) := by decide +kernel
theorem dX12_errors_28 : decode cX12_errors 28 = .ok (.getfield 156, 3) := by decide +kernel
theorem dX12_errors_31 : decode cX12_errors 31 = .ok (.if_icmp .ge 99, 3) := by decide +kernel
theorem dX12_errors_130 : decode cX12_errors 130 = .ok (.iload_n 1, 1) := by decide +kernel
theorem dX12_errors_131 : decode cX12_errors 131 = .ok (.iconst 2, 1) := by decide +kernel
theorem dX12_errors_132 : decode cX12_errors 132 = .ok (.if_icmp .ge 13, 3) := by decide +kernel
theorem dX12_errors_135 : decode cX12_errors 135 = .ok (.iload_n 1, 1) := by decide +kernel
theorem dX12_errors_136 : decode cX12_errors 136 = .ok (.ifCond .ne 7, 3) := by decide +kernel
theorem dX12_errors_139 : decode cX12_errors 139 = .ok (.iload_n 2, 1) := by decide +kernel
theorem dX12_errors_140 : decode cX12_errors 140 = .ok (.goto 4, 3) := by decide +kernel
theorem dX12_errors_143 : decode cX12_errors 143 = .ok (.iload_n 3, 1) := by decide +kernel
theorem dX12_errors_144 : decode cX12_errors 144 = .ok (.ireturn, 1) := by decide +kernel
theorem dX12_errors_145 : decode cX12_errors 145 = .ok (.aload_n 0, 1) := by decide +kernel
theorem dX12_errors_146 : decode cX12_errors 146 = .ok (.invokevirtual 240, 3) := by decide +kernel
theorem dX12_errors_149 : decode cX12_errors 149 = .ok (.ifCond .eq 13, 3) := by decide +kernel
theorem dX12_errors_152 : decode cX12_errors 152 = .ok (.iload 4, 2) := by decide +kernel
theorem dX12_errors_154 : decode cX12_errors 154 = .ok (.aload_n 0, 1) := by decide +kernel
theorem dX12_errors_155 : decode cX12_errors 155 = .ok (.invokevirtual 267, 3) := by decide +kernel
theorem dX12_errors_158 : decode cX12_errors 158 = .ok (.isub, 1) := by decide +kernel
theorem dX12_errors_159 : decode cX12_errors 159 = .ok (.goto 5, 3) := by decide +kernel
theorem dX12_errors_164 : decode cX12_errors 164 = .ok (.ireturn, 1) := by decide +kernel
set_option maxRecDepth 20000 in
theorem ggX12_weight_X12_findPieces : GoodIn wsX12_weight wsX12_findPieces := goodIn_r _ [17, 18, 19, 20, 21, 22, 23, 24, 25, 16, 26, 27, 28, 29, 30, 31, 32, 33, 34, 35, 36, 37, 38, 1, 3, 2, 39, 40, 41, 42, 43, 44, 45, 46, 47, 48, 49, 50, 51, 52, 57, 58, 59, 60, 61, 62, 63, 64, 65, 66, 67, 68, 69, 70, 71, 72, 73, 74, 75, 76, 77, 78, 79, 80, 81, 82, 83, 84, 85, 86, 87, 88, 89, 90, 91, 92, 93, 94, 95, 96, 97, 98, 99, 100, 101] (by decide +kernel) (by decide +kernel)
set_option maxRecDepth 20000 in
theorem gX12_weight_X12_findPieces : GoodIn wsX12_weight (wsV RX12 203 RX12 yX12_findPieces wsX12_findPieces) := goodIn_app (goodIn_of _ (by decide +kernel)) ggX12_weight_X12_findPieces
set_option maxRecDepth 20000 in
theorem ggX12_weight_X12_in : GoodIn wsX12_weight wsX12_in := goodIn_r _ [47] (by decide +kernel) (by decide +kernel)
set_option maxRecDepth 20000 in
theorem gX12_weight_X12_in : GoodIn wsX12_weight (va_wsS RX12 100 yX12_in wsX12_in) := goodIn_app (goodIn_of _ (by decide +kernel)) ggX12_weight_X12_in
set_option maxRecDepth 20000 in
theorem ggX12_weight_X12_isPiece : GoodIn wsX12_weight wsX12_isPiece := goodIn_r _ [56, 18, 45, 46, 16, 47, 57, 58, 59, 60, 61, 62, 63, 64, 65, 66, 67, 68, 69, 70, 71, 72, 73, 74, 75, 76, 77, 78, 79, 80, 81, 82, 83, 84, 85, 86, 87, 88, 89, 90, 91, 92, 93, 94, 95, 96, 97, 98, 99, 100, 101] (by decide +kernel) (by decide +kernel)
set_option maxRecDepth 20000 in
theorem gX12_weight_X12_isPiece : GoodIn wsX12_weight (wsV RX12 206 RX12 yX12_isPiece wsX12_isPiece) := goodIn_app (goodIn_of _ (by decide +kernel)) ggX12_weight_X12_isPiece
theorem dX12_weight_0 : decode cX12_weight 0 = .ok (.aload_n 0, 1) := by decide +kernel
theorem dX12_weight_1 : decode cX12_weight 1 = .ok (.invokevirtual 203, 3) := by decide +kernel
theorem dX12_weight_4 : decode cX12_weight 4 = .ok (.iload_n 1, 1) := by decide +kernel
theorem dX12_weight_5 : decode cX12_weight 5 = .ok (.iconst 0, 1) := by decide +kernel
theorem dX12_weight_6 : decode cX12_weight 6 = .ok (.bipush 7, 2) := by decide +kernel
theorem dX12_weight_8 : decode cX12_weight 8 = .ok (.invokestatic 100, 3) := by decide +kernel
theorem dX12_weight_11 : decode cX12_weight 11 = .ok (.ifCond .eq 11, 3) := by decide +kernel
theorem dX12_weight_14 : decode cX12_weight 14 = .ok (.aload_n 0, 1) := by decide +kernel
theorem dX12_weight_15 : decode cX12_weight 15 = .ok (.iload_n 2, 1) := by decide +kernel
theorem dX12_weight_16 : decode cX12_weight 16 = .ok (.invokevirtual 206, 3) := by decide +kernel
theorem dX12_weight_19 : decode cX12_weight 19 = .ok (.ifCond .ne 5, 3) := by decide +kernel
theorem dX12_weight_22 : decode cX12_weight 22 = .ok (.iconst (-1), 1) := by decide +kernel
theorem dX12_weight_23 : decode cX12_weight 23 = .ok (.ireturn, 1) := by decide +kernel
theorem dX12_count_0 : decode cX12_count 0 = .ok (.iconst 0, 1) := by decide +kernel
theorem dX12_count_1 : decode cX12_count 1 = .ok (.istore_n 2, 1) := by decide +kernel
theorem dX12_count_2 : decode cX12_count 2 = .ok (.iload_n 1, 1) := by decide +kernel
theorem dX12_count_3 : decode cX12_count 3 = .ok (.tableswitch 127 0 5 #[37, 42, 77, 112, 117, 122], 37) := by decide +kernel
theorem dX12_count_40 : decode cX12_count 40 = .ok (.aload_n 0, 1) := by decide +kernel
theorem dX12_count_41 : decode cX12_count 41 = .ok (.getfield 156, 3) := by decide +kernel
theorem dX12_count_44 : decode cX12_count 44 = .ok (.ireturn, 1) := by decide +kernel
theorem dX12_count_45 : decode cX12_count 45 = .ok (.iconst 0, 1) := by decide +kernel
theorem dX12_count_46 : decode cX12_count 46 = .ok (.istore_n 3, 1) := by decide +kernel
theorem dX12_count_47 : decode cX12_count 47 = .ok (.iload_n 3, 1) := by decide +kernel
theorem dX12_count_48 : decode cX12_count 48 = .ok (.aload_n 0, 1) := by decide +kernel
theorem dX12_count_49 : decode cX12_count 49 = .ok (.getfield 156, 3) := by decide +kernel
theorem dX12_count_52 : decode cX12_count 52 = .ok (.if_icmp .ge 26, 3) := by decide +kernel
theorem dX12_count_78 : decode cX12_count 78 = .ok (.iload_n 2, 1) := by decide +kernel
theorem dX12_count_79 : decode cX12_count 79 = .ok (.ireturn, 1) := by decide +kernel
theorem dX12_count_80 : decode cX12_count 80 = .ok (.iconst 0, 1) := by decide +kernel
theorem dX12_count_81 : decode cX12_count 81 = .ok (.istore_n 3, 1) := by decide +kernel
theorem dX12_count_82 : decode cX12_count 82 = .ok (.iload_n 3, 1) := by decide +kernel
theorem dX12_count_83 : decode cX12_count 83 = .ok (.aload_n 0, 1) := by decide +kernel
theorem dX12_count_84 : decode cX12_count 84 = .ok (.getfield 156, 3) := by decide +kernel
theorem dX12_count_87 : decode cX12_count 87 = .ok (.if_icmp .ge 26, 3) := by decide +kernel
theorem dX12_count_113 : decode cX12_count 113 = .ok (.iload_n 2, 1) := by decide +kernel
theorem dX12_count_114 : decode cX12_count 114 = .ok (.ireturn, 1) := by decide +kernel
theorem dX12_count_115 : decode cX12_count 115 = .ok (.aload_n 0, 1) := by decide +kernel
theorem dX12_count_116 : decode cX12_count 116 = .ok (.getfield 252, 3) := by decide +kernel
theorem dX12_count_119 : decode cX12_count 119 = .ok (.ireturn, 1) := by decide +kernel
theorem dX12_count_120 : decode cX12_count 120 = .ok (.aload_n 0, 1) := by decide +kernel
theorem dX12_count_121 : decode cX12_count 121 = .ok (.getfield 171, 3) := by decide +kernel
theorem dX12_count_124 : decode cX12_count 124 = .ok (.ireturn, 1) := by decide +kernel
theorem dX12_count_125 : decode cX12_count 125 = .ok (.aload_n 0, 1) := by decide +kernel
theorem dX12_count_126 : decode cX12_count 126 = .ok (.getfield 104, 3) := by decide +kernel
theorem dX12_count_129 : decode cX12_count 129 = .ok (.ireturn, 1) := by decide +kernel
theorem dX12_count_130 : decode cX12_count 130 = .ok (.iconst (-1), 1) := by decide +kernel
theorem dX12_count_131 : decode cX12_count 131 = .ok (.ireturn, 1) := by decide +kernel
theorem dX12_trace_0 : decode cX12_trace 0 = .ok (.aload_n 0, 1) := by decide +kernel
theorem dX12_trace_1 : decode cX12_trace 1 = .ok (.getfield 270, 3) := by decide +kernel
theorem dX12_trace_4 : decode cX12_trace 4 = .ok (.lreturn, 1) := by decide +kernel
theorem dJ7_fill_53178_0 : decode cJ7_fill_53178 0 = .ok (.iconst 0, 1) := by decide +kernel
theorem dJ7_fill_53178_1 : decode cJ7_fill_53178 1 = .ok (.istore_n 2, 1) := by decide +kernel
theorem dJ7_fill_53178_2 : decode cJ7_fill_53178 2 = .ok (.aload_n 0, 1) := by decide +kernel
theorem dJ7_fill_53178_3 : decode cJ7_fill_53178 3 = .ok (.arraylength, 1) := by decide +kernel
theorem dJ7_fill_53178_4 : decode cJ7_fill_53178 4 = .ok (.istore_n 3, 1) := by decide +kernel
theorem dJ7_fill_53178_5 : decode cJ7_fill_53178 5 = .ok (.iload_n 2, 1) := by decide +kernel
theorem dJ7_fill_53178_6 : decode cJ7_fill_53178 6 = .ok (.iload_n 3, 1) := by decide +kernel
theorem dJ7_fill_53178_7 : decode cJ7_fill_53178 7 = .ok (.if_icmp .ge 13, 3) := by decide +kernel
theorem dJ7_fill_53178_10 : decode cJ7_fill_53178 10 = .ok (.aload_n 0, 1) := by decide +kernel
theorem dJ7_fill_53178_11 : decode cJ7_fill_53178 11 = .ok (.iload_n 2, 1) := by decide +kernel
theorem dJ7_fill_53178_12 : decode cJ7_fill_53178 12 = .ok (.iload_n 1, 1) := by decide +kernel
theorem dJ7_fill_53178_13 : decode cJ7_fill_53178 13 = .ok (.iastore, 1) := by decide +kernel
theorem dJ7_fill_53178_14 : decode cJ7_fill_53178 14 = .ok (.iinc 2 1, 3) := by decide +kernel
theorem dJ7_fill_53178_17 : decode cJ7_fill_53178 17 = .ok (.goto (-12), 3) := by decide +kernel
theorem dJ7_fill_53178_20 : decode cJ7_fill_53178 20 = .ok (.return_, 1) := by decide +kernel
end
section
/-! the state of the whole system: ints, longs, arrays by number; the cells at fixed places; made by wip/gen/mkstate.py -/
abbrev ST : Type := (Nat → Int32) × (Nat → Int64) × (Nat → Nat → Int32)
def sI (σ : ST) (k : Nat) (v : Int32) : ST := (fun j => cond (Nat.beq j k) v (σ.1 j), σ.2.1, σ.2.2)
def sL (σ : ST) (k : Nat) (v : Int64) : ST := (σ.1, fun j => cond (Nat.beq j k) v (σ.2.1 j), σ.2.2)
def sA (σ : ST) (k : Nat) (f : Nat → Int32) : ST := (σ.1, σ.2.1, fun j => cond (Nat.beq j k) f (σ.2.2 j))
/-- the classes' numbers, the cells' addresses, the arrays' classes -/
abbrev CX : Type := va_G × (Nat → Nat) × (Nat → ClassId)
def wG (g : CX) (k0 n : Nat) : Nat → Option Nat := fun i => if i < n then some (g.2.1 (k0 + i)) else none
def wW (g : CX) (σ : ST) : va_W := [
  (g.2.1 0, .inr (11, [.ref (g.2.1 1), .ref (g.2.1 5), .ref (g.2.1 10), .ref (g.2.1 16), .ref (g.2.1 25), .ref (g.2.1 47), .ref (g.2.1 54), .ref (g.2.1 58), .ref (g.2.1 62), .ref (g.2.1 65), .ref (g.2.1 77), .ref (g.2.1 78), .int (σ.1 21), .int (σ.1 22), .int (σ.1 23), .int (σ.1 24)])),
  (g.2.1 1, .inr (8, [.ref (g.2.1 2), .ref (g.2.1 3), .ref (g.2.1 4), .int (σ.1 0), .int (σ.1 1)])),
  (g.2.1 2, .inl (g.2.2 0, 200, .inl (σ.2.2 0))),
  (g.2.1 3, .inl (g.2.2 1, 6, .inl (σ.2.2 1))),
  (g.2.1 4, .inl (g.2.2 2, 6, .inl (σ.2.2 2))),
  (g.2.1 5, .inr (7, [.ref (g.2.1 6), .ref (g.2.1 7), .ref (g.2.1 8), .ref (g.2.1 9), .int (σ.1 2)])),
  (g.2.1 6, .inl (g.2.2 3, 192, .inl (σ.2.2 3))),
  (g.2.1 7, .inl (g.2.2 4, 48, .inl (σ.2.2 4))),
  (g.2.1 8, .inl (g.2.2 5, 48, .inl (σ.2.2 5))),
  (g.2.1 9, .inl (g.2.2 6, 48, .inl (σ.2.2 6))),
  (g.2.1 10, .inr (3, [.ref (g.2.1 11), .int (σ.1 3), .int (σ.1 4)])),
  (g.2.1 11, .inl (g.2.2 7, 4, .inr (.inr (.inr (.inr (wG g 12 4)))))),
  (g.2.1 12, .inl (g.2.2 8, 48, .inl (σ.2.2 8))),
  (g.2.1 13, .inl (g.2.2 9, 48, .inl (σ.2.2 9))),
  (g.2.1 14, .inl (g.2.2 10, 48, .inl (σ.2.2 10))),
  (g.2.1 15, .inl (g.2.2 11, 48, .inl (σ.2.2 11))),
  (g.2.1 16, .inr (2, [.ref (g.2.1 17), .ref (g.2.1 18), .ref (g.2.1 19), .ref (g.2.1 20), .ref (g.2.1 21), .ref (g.2.1 22), .ref (g.2.1 23), .ref (g.2.1 24), .int (σ.1 5), .int (σ.1 6), .int (σ.1 7), .int (σ.1 8)])),
  (g.2.1 17, .inl (g.2.2 12, 48, .inl (σ.2.2 12))),
  (g.2.1 18, .inl (g.2.2 13, 48, .inl (σ.2.2 13))),
  (g.2.1 19, .inl (g.2.2 14, 48, .inl (σ.2.2 14))),
  (g.2.1 20, .inl (g.2.2 15, 192, .inl (σ.2.2 15))),
  (g.2.1 21, .inl (g.2.2 16, 48, .inl (σ.2.2 16))),
  (g.2.1 22, .inl (g.2.2 17, 48, .inl (σ.2.2 17))),
  (g.2.1 23, .inl (g.2.2 18, 49, .inl (σ.2.2 18))),
  (g.2.1 24, .inl (g.2.2 19, 48, .inl (σ.2.2 19))),
  (g.2.1 25, .inr (1, [.ref (g.2.1 26), .ref (g.2.1 36), .ref (g.2.1 46), .int (σ.1 9)])),
  (g.2.1 26, .inl (g.2.2 20, 9, .inr (.inr (.inr (.inr (wG g 27 9)))))),
  (g.2.1 27, .inl (g.2.2 21, 9, .inl (σ.2.2 21))),
  (g.2.1 28, .inl (g.2.2 22, 9, .inl (σ.2.2 22))),
  (g.2.1 29, .inl (g.2.2 23, 9, .inl (σ.2.2 23))),
  (g.2.1 30, .inl (g.2.2 24, 9, .inl (σ.2.2 24))),
  (g.2.1 31, .inl (g.2.2 25, 9, .inl (σ.2.2 25))),
  (g.2.1 32, .inl (g.2.2 26, 9, .inl (σ.2.2 26))),
  (g.2.1 33, .inl (g.2.2 27, 9, .inl (σ.2.2 27))),
  (g.2.1 34, .inl (g.2.2 28, 9, .inl (σ.2.2 28))),
  (g.2.1 35, .inl (g.2.2 29, 9, .inl (σ.2.2 29))),
  (g.2.1 36, .inl (g.2.2 30, 9, .inr (.inr (.inr (.inr (wG g 37 9)))))),
  (g.2.1 37, .inl (g.2.2 31, 9, .inl (σ.2.2 31))),
  (g.2.1 38, .inl (g.2.2 32, 9, .inl (σ.2.2 32))),
  (g.2.1 39, .inl (g.2.2 33, 9, .inl (σ.2.2 33))),
  (g.2.1 40, .inl (g.2.2 34, 9, .inl (σ.2.2 34))),
  (g.2.1 41, .inl (g.2.2 35, 9, .inl (σ.2.2 35))),
  (g.2.1 42, .inl (g.2.2 36, 9, .inl (σ.2.2 36))),
  (g.2.1 43, .inl (g.2.2 37, 9, .inl (σ.2.2 37))),
  (g.2.1 44, .inl (g.2.2 38, 9, .inl (σ.2.2 38))),
  (g.2.1 45, .inl (g.2.2 39, 9, .inl (σ.2.2 39))),
  (g.2.1 46, .inl (g.2.2 40, 512, .inl (σ.2.2 40))),
  (g.2.1 47, .inr (0, [.ref (g.2.1 48), .ref (g.2.1 52), .ref (g.2.1 53), .int (σ.1 12), .int (σ.1 13), .int (σ.1 14), .int (σ.1 15), .int (σ.1 16), .long (σ.2.1 0), .long (σ.2.1 1)])),
  (g.2.1 48, .inr (4, [.ref (g.2.1 49), .ref (g.2.1 50), .ref (g.2.1 51), .int (σ.1 10), .int (σ.1 11)])),
  (g.2.1 49, .inl (g.2.2 41, 9, .inl (σ.2.2 41))),
  (g.2.1 50, .inl (g.2.2 42, 9, .inl (σ.2.2 42))),
  (g.2.1 51, .inl (g.2.2 43, 36, .inl (σ.2.2 43))),
  (g.2.1 52, .inl (g.2.2 44, 9, .inl (σ.2.2 44))),
  (g.2.1 53, .inl (g.2.2 45, 9, .inl (σ.2.2 45))),
  (g.2.1 54, .inr (4, [.ref (g.2.1 55), .ref (g.2.1 56), .ref (g.2.1 57), .int (σ.1 17), .int (σ.1 18)])),
  (g.2.1 55, .inl (g.2.2 46, 9, .inl (σ.2.2 46))),
  (g.2.1 56, .inl (g.2.2 47, 9, .inl (σ.2.2 47))),
  (g.2.1 57, .inl (g.2.2 48, 36, .inl (σ.2.2 48))),
  (g.2.1 58, .inr (5, [.ref (g.2.1 59), .ref (g.2.1 60), .ref (g.2.1 61), .int (σ.1 19)])),
  (g.2.1 59, .inl (g.2.2 49, 6, .inl (σ.2.2 49))),
  (g.2.1 60, .inl (g.2.2 50, 24, .inl (σ.2.2 50))),
  (g.2.1 61, .inl (g.2.2 51, 512, .inl (σ.2.2 51))),
  (g.2.1 62, .inr (10, [.ref (g.2.1 63), .ref (g.2.1 64), .int (σ.1 20)])),
  (g.2.1 63, .inl (g.2.2 52, 12, .inl (σ.2.2 52))),
  (g.2.1 64, .inl (g.2.2 53, 12, .inl (σ.2.2 53))),
  (g.2.1 65, .inr (9, [.ref (g.2.1 66), .ref (g.2.1 76)])),
  (g.2.1 66, .inl (g.2.2 54, 9, .inr (.inr (.inr (.inr (wG g 67 9)))))),
  (g.2.1 67, .inl (g.2.2 55, 5, .inl (σ.2.2 55))),
  (g.2.1 68, .inl (g.2.2 56, 5, .inl (σ.2.2 56))),
  (g.2.1 69, .inl (g.2.2 57, 5, .inl (σ.2.2 57))),
  (g.2.1 70, .inl (g.2.2 58, 5, .inl (σ.2.2 58))),
  (g.2.1 71, .inl (g.2.2 59, 5, .inl (σ.2.2 59))),
  (g.2.1 72, .inl (g.2.2 60, 5, .inl (σ.2.2 60))),
  (g.2.1 73, .inl (g.2.2 61, 5, .inl (σ.2.2 61))),
  (g.2.1 74, .inl (g.2.2 62, 5, .inl (σ.2.2 62))),
  (g.2.1 75, .inl (g.2.2 63, 5, .inl (σ.2.2 63))),
  (g.2.1 76, .inl (g.2.2 64, 32, .inl (σ.2.2 64))),
  (g.2.1 77, .inr (6, [.long (σ.2.1 2)])),
  (g.2.1 78, .inl (g.2.2 65, 48, .inl (σ.2.2 65))),
  (g.2.1 79, .inr (12, [.long (σ.2.1 3), .ref (g.2.1 80), .ref (g.2.1 81), .int (σ.1 25), .int (σ.1 26), .int (σ.1 27), .int (σ.1 28), .int (σ.1 29), .int (σ.1 30), .int (σ.1 31), .ref (g.2.1 82), .ref (g.2.1 83), .ref (g.2.1 84), .ref (g.2.1 85), .int (σ.1 32), .ref (g.2.1 86), .ref (g.2.1 87), .int (σ.1 33), .int (σ.1 34), .ref (g.2.1 88), .int (σ.1 35), .int (σ.1 36), .int (σ.1 37), .ref (g.2.1 89), .ref (g.2.1 90), .ref (g.2.1 91), .ref (g.2.1 92), .ref (g.2.1 93), .ref (g.2.1 94), .ref (g.2.1 95), .int (σ.1 38), .ref (g.2.1 96), .ref (g.2.1 97), .ref (g.2.1 98), .ref (g.2.1 99), .ref (g.2.1 100), .ref (g.2.1 101), .int (σ.1 39), .ref (g.2.1 102), .ref (g.2.1 103), .int (σ.1 40), .ref (g.2.1 104), .ref (g.2.1 105), .ref (g.2.1 106), .ref (g.2.1 107)])),
  (g.2.1 80, .inl (g.2.2 66, 12, .inl (σ.2.2 66))),
  (g.2.1 81, .inl (g.2.2 67, 200, .inl (σ.2.2 67))),
  (g.2.1 82, .inl (g.2.2 68, 192, .inl (σ.2.2 68))),
  (g.2.1 83, .inl (g.2.2 69, 48, .inl (σ.2.2 69))),
  (g.2.1 84, .inl (g.2.2 70, 48, .inl (σ.2.2 70))),
  (g.2.1 85, .inl (g.2.2 71, 48, .inl (σ.2.2 71))),
  (g.2.1 86, .inl (g.2.2 72, 12, .inl (σ.2.2 72))),
  (g.2.1 87, .inl (g.2.2 73, 12, .inl (σ.2.2 73))),
  (g.2.1 88, .inl (g.2.2 74, 48, .inl (σ.2.2 74))),
  (g.2.1 89, .inl (g.2.2 75, 48, .inl (σ.2.2 75))),
  (g.2.1 90, .inl (g.2.2 76, 48, .inl (σ.2.2 76))),
  (g.2.1 91, .inl (g.2.2 77, 48, .inl (σ.2.2 77))),
  (g.2.1 92, .inl (g.2.2 78, 192, .inl (σ.2.2 78))),
  (g.2.1 93, .inl (g.2.2 79, 48, .inl (σ.2.2 79))),
  (g.2.1 94, .inl (g.2.2 80, 48, .inl (σ.2.2 80))),
  (g.2.1 95, .inl (g.2.2 81, 4, .inl (σ.2.2 81))),
  (g.2.1 96, .inl (g.2.2 82, 48, .inl (σ.2.2 82))),
  (g.2.1 97, .inl (g.2.2 83, 49, .inl (σ.2.2 83))),
  (g.2.1 98, .inl (g.2.2 84, 48, .inl (σ.2.2 84))),
  (g.2.1 99, .inl (g.2.2 85, 10, .inl (σ.2.2 85))),
  (g.2.1 100, .inl (g.2.2 86, 10, .inl (σ.2.2 86))),
  (g.2.1 101, .inl (g.2.2 87, 10, .inl (σ.2.2 87))),
  (g.2.1 102, .inl (g.2.2 88, 81, .inl (σ.2.2 88))),
  (g.2.1 103, .inl (g.2.2 89, 36, .inl (σ.2.2 89))),
  (g.2.1 104, .inl (g.2.2 90, 6, .inl (σ.2.2 90))),
  (g.2.1 105, .inl (g.2.2 91, 24, .inl (σ.2.2 91))),
  (g.2.1 106, .inl (g.2.2 92, 3072, .inl (σ.2.2 92))),
  (g.2.1 107, .inl (g.2.2 93, 54, .inl (σ.2.2 93)))]
def tysW (g : CX) : List (ClassId × FieldType) := [(g.2.2 0, .int), (g.2.2 1, .int), (g.2.2 2, .int), (g.2.2 3, .int), (g.2.2 4, .boolean), (g.2.2 5, .boolean), (g.2.2 6, .int), (g.2.2 7, (.array .int)), (g.2.2 8, .int), (g.2.2 9, .int), (g.2.2 10, .int), (g.2.2 11, .int), (g.2.2 12, .int), (g.2.2 13, .int), (g.2.2 14, .int), (g.2.2 15, .int), (g.2.2 16, .int), (g.2.2 17, .int), (g.2.2 18, .int), (g.2.2 19, .int), (g.2.2 20, (.array .int)), (g.2.2 21, .int), (g.2.2 22, .int), (g.2.2 23, .int), (g.2.2 24, .int), (g.2.2 25, .int), (g.2.2 26, .int), (g.2.2 27, .int), (g.2.2 28, .int), (g.2.2 29, .int), (g.2.2 30, (.array .int)), (g.2.2 31, .int), (g.2.2 32, .int), (g.2.2 33, .int), (g.2.2 34, .int), (g.2.2 35, .int), (g.2.2 36, .int), (g.2.2 37, .int), (g.2.2 38, .int), (g.2.2 39, .int), (g.2.2 40, .int), (g.2.2 41, .int), (g.2.2 42, .int), (g.2.2 43, .int), (g.2.2 44, .int), (g.2.2 45, .int), (g.2.2 46, .int), (g.2.2 47, .int), (g.2.2 48, .int), (g.2.2 49, .int), (g.2.2 50, .int), (g.2.2 51, .int), (g.2.2 52, .int), (g.2.2 53, .int), (g.2.2 54, (.array .int)), (g.2.2 55, .int), (g.2.2 56, .int), (g.2.2 57, .int), (g.2.2 58, .int), (g.2.2 59, .int), (g.2.2 60, .int), (g.2.2 61, .int), (g.2.2 62, .int), (g.2.2 63, .int), (g.2.2 64, .int), (g.2.2 65, .int), (g.2.2 66, .int), (g.2.2 67, .byte), (g.2.2 68, .int), (g.2.2 69, .boolean), (g.2.2 70, .boolean), (g.2.2 71, .int), (g.2.2 72, .int), (g.2.2 73, .int), (g.2.2 74, .int), (g.2.2 75, .int), (g.2.2 76, .int), (g.2.2 77, .int), (g.2.2 78, .int), (g.2.2 79, .int), (g.2.2 80, .boolean), (g.2.2 81, .int), (g.2.2 82, .int), (g.2.2 83, .int), (g.2.2 84, .int), (g.2.2 85, .int), (g.2.2 86, .int), (g.2.2 87, .int), (g.2.2 88, .int), (g.2.2 89, .int), (g.2.2 90, .int), (g.2.2 91, .int), (g.2.2 92, .int), (g.2.2 93, .int)]
def Aw (g : CX) : Nat → Prop := fun q => ∃ k, k < 108 ∧ q = g.2.1 k
def AD (g : CX) : Prop := ∀ i j, i < 108 → j < 108 → g.2.1 i = g.2.1 j → i = j
def nestF : List Cond := [.fieldLinkNest RX11 112 "VoiceHeaps$RuleText" "length" "I" "VoiceHeaps", .fieldLinkNest RX11 130 "VoiceHeaps$RowBook" "rows" "I" "VoiceHeaps", .fieldLinkNest RX11 148 "VoiceHeaps$WordBook" "words" "I" "VoiceHeaps", .fieldLinkNest RX11 154 "VoiceHeaps$Cutting" "pieces" "I" "VoiceHeaps", .fieldLinkNest RX11 157 "VoiceHeaps$Cutting" "stretches" "I" "VoiceHeaps", .fieldLinkNest RX11 160 "VoiceHeaps$Cutting" "total" "I" "VoiceHeaps", .fieldLinkNest RX11 163 "VoiceHeaps$Cutting" "heardRows" "I" "VoiceHeaps", .fieldLinkNest RX11 169 "VoiceHeaps$Cutting" "first" "[I" "VoiceHeaps", .fieldLinkNest RX11 172 "VoiceHeaps$Cutting" "size" "[I" "VoiceHeaps", .fieldLinkNest RX11 175 "VoiceHeaps$Cutting" "spread" "[I" "VoiceHeaps", .fieldLinkNest RX11 182 "VoiceHeaps$Cutting" "pieceOf" "[I" "VoiceHeaps", .fieldLinkNest RX11 198 "VoiceHeaps$Heaping" "heapOf" "[I" "VoiceHeaps", .fieldLinkNest RX11 201 "VoiceHeaps$Heaping" "value" "I" "VoiceHeaps", .fieldLinkNest RX11 204 "VoiceHeaps$Heaping" "heaps" "I" "VoiceHeaps", .fieldLinkNest RX11 210 "VoiceHeaps$AllHeapings" "nearOnes" "I" "VoiceHeaps", .fieldLinkNest RX11 213 "VoiceHeaps$AllHeapings" "fewest" "I" "VoiceHeaps", .fieldLinkNest RX11 216 "VoiceHeaps$AllHeapings" "most" "I" "VoiceHeaps", .fieldLinkNest RX11 228 "VoiceHeaps$AllHeapings" "best" "LVoiceHeaps$Heaping;" "VoiceHeaps", .fieldLinkNest RX11 249 "VoiceHeaps$KeptVoices" "names" "[I" "VoiceHeaps", .fieldLinkNest RX11 285 "VoiceHeaps$KeptVoices" "voices" "I" "VoiceHeaps", .fieldLinkNest RX11 298 "VoiceHeaps$Kinds" "asked" "J" "VoiceHeaps", .fieldLinkNest RX0 30 "VoiceHeaps$Heaping" "value" "I" "VoiceHeaps", .fieldLinkNest RX0 65 "VoiceHeaps$Bonds" "pieces" "I" "VoiceHeaps", .fieldLinkNest RX0 91 "VoiceHeaps$Heaping" "heaps" "I" "VoiceHeaps", .fieldLinkNest RX0 94 "VoiceHeaps$Heaping" "heapOf" "[I" "VoiceHeaps", .fieldLinkNest RX1 23 "VoiceHeaps$Cutting" "pieces" "I" "VoiceHeaps", .fieldLinkNest RX1 48 "VoiceHeaps$Heaping" "heapOf" "[I" "VoiceHeaps", .fieldLinkNest RX1 64 "VoiceHeaps$Heaping" "value" "I" "VoiceHeaps", .fieldLinkNest RX2 55 "VoiceHeaps$RowBook" "rows" "I" "VoiceHeaps", .fieldLinkNest RX2 82 "VoiceHeaps$Gathering" "spread" "I" "VoiceHeaps", .fieldLinkNest RX3 23 "VoiceHeaps$RowBook" "numbers" "[I" "VoiceHeaps", .fieldLinkNest RX4 36 "VoiceHeaps$RowBook" "rows" "I" "VoiceHeaps", .fieldLinkNest RX4 41 "VoiceHeaps$Cutting" "pieceOf" "[I" "VoiceHeaps", .fieldLinkNest RX4 58 "VoiceHeaps$Cutting" "middles" "[I" "VoiceHeaps", .fieldLinkNest RX5 35 "VoiceHeaps$Heaping" "middles" "[I" "VoiceHeaps", .fieldLinkNest RX5 40 "VoiceHeaps$Cutting" "pieces" "I" "VoiceHeaps", .fieldLinkNest RX5 60 "VoiceHeaps$Cutting" "middles" "[I" "VoiceHeaps", .fieldLinkNest RX6 39 "VoiceHeaps$Cutting" "size" "[I" "VoiceHeaps", .fieldLinkNest RX6 53 "VoiceHeaps$Cutting" "spread" "[I" "VoiceHeaps", .fieldLinkNest RX9 20 "VoiceHeaps$RowBook" "rows" "I" "VoiceHeaps", .fieldLinkNest RX9 26 "VoiceHeaps$RowBook" "truthOf" "[I" "VoiceHeaps", .fieldLinkNest RX9 29 "VoiceHeaps$Cutting" "pieceOf" "[I" "VoiceHeaps", .fieldLinkNest RX9 44 "VoiceHeaps$Heaping" "heaps" "I" "VoiceHeaps", .fieldLinkNest RX9 59 "VoiceHeaps$Heaping" "heapOf" "[I" "VoiceHeaps", .fieldLinkNest RX10 22 "VoiceHeaps$Cutting" "pieces" "I" "VoiceHeaps", .fieldLinkNest RX10 31 "VoiceHeaps$Cutting" "first" "[I" "VoiceHeaps", .fieldLinkNest RX10 40 "VoiceHeaps$Cutting" "size" "[I" "VoiceHeaps"]
def nestM : List Cond := [.methodLinkNest RX2 96 yX11_off "VoiceHeaps", .methodLinkNest RX4 59 yX11_off "VoiceHeaps", .methodLinkNest RX5 36 yX11_off "VoiceHeaps"]
def NW (U : State) : Prop := (∀ w ∈ nestF, va_Nw w U) ∧ (∀ w ∈ nestM, va_Nw w U)
theorem NW.warm {s U : State} (hW : s.WarmedH U.vm) (h : NW s) : NW U := by
  refine ⟨fun w hw => ?_, fun w hw => ?_⟩
  · have h1 := h.1 w hw
    simp only [nestF, List.mem_cons, List.not_mem_nil, or_false] at hw
    rcases hw with rfl | rfl | rfl | rfl | rfl | rfl | rfl | rfl | rfl | rfl | rfl | rfl | rfl | rfl | rfl | rfl | rfl | rfl | rfl | rfl | rfl | rfl | rfl | rfl | rfl | rfl | rfl | rfl | rfl | rfl | rfl | rfl | rfl | rfl | rfl | rfl | rfl | rfl | rfl | rfl | rfl | rfl | rfl | rfl | rfl | rfl | rfl <;> exact va_Nw.warmF hW h1
  · have h1 := h.2 w hw
    simp only [nestM, List.mem_cons, List.not_mem_nil, or_false] at hw
    rcases hw with rfl | rfl | rfl <;> exact va_Nw.warmM hW h1
theorem NW.calling {U : State} {f : JFrame} {mk : MethodId} {a : Array Value} (h : NW U) : NW (U.calling f mk a) := by
  refine ⟨fun w hw => ?_, fun w hw => ?_⟩
  · have h1 := h.1 w hw
    simp only [nestF, List.mem_cons, List.not_mem_nil, or_false] at hw
    rcases hw with rfl | rfl | rfl | rfl | rfl | rfl | rfl | rfl | rfl | rfl | rfl | rfl | rfl | rfl | rfl | rfl | rfl | rfl | rfl | rfl | rfl | rfl | rfl | rfl | rfl | rfl | rfl | rfl | rfl | rfl | rfl | rfl | rfl | rfl | rfl | rfl | rfl | rfl | rfl | rfl | rfl | rfl | rfl | rfl | rfl | rfl | rfl <;> exact va_Nw.same rfl rfl h1
  · have h1 := h.2 w hw
    simp only [nestM, List.mem_cons, List.not_mem_nil, or_false] at hw
    rcases hw with rfl | rfl | rfl <;> exact va_Nw.same rfl rfl h1
/-- the two static tables of RuleText -/
def atFirst : Nat → Value := fun j => match j with | 0 => .int 20 | 1 => .int 10 | 2 => .int 40 | 3 => .int 0 | 4 => .int 0 | _ => .int 10
def atMost : Nat → Value := fun j => match j with | 0 => .int 999 | 1 => .int 399 | 2 => .int 399 | 3 => .int 9999 | 4 => .int 999 | _ => .int 399
def STA (g : CX) (U : State) (H : Heap) : Prop := va_Z "VoiceHeaps$RuleText" "AT_FIRST" "[I" (.ref (g.2.1 200)) (Aw g) U H ∧ va_T .int (g.2.1 200) 6 atFirst (Aw g) U H ∧ va_Z "VoiceHeaps$RuleText" "MOST" "[I" (.ref (g.2.1 201)) (Aw g) U H ∧ va_T .int (g.2.1 201) 6 atMost (Aw g) U H
theorem STA.kept {g : CX} {U : State} {H H1 : Heap} (h : STA g U H) (hq : ∀ a : Nat, a < H.size → ¬ Aw g a → H1[a]? = H[a]?) : STA g U H1 := ⟨h.1.kept hq, h.2.1.kept hq, h.2.2.1.kept hq, h.2.2.2.kept hq⟩
theorem STA.moved {g : CX} {u U : State} {H : Heap} (hvm : u.vm.Alike U.vm) (h : STA g u H) : STA g U H := ⟨h.1.moved hvm, h.2.1.moved hvm, h.2.2.1.moved hvm, h.2.2.2.moved hvm⟩
/-- what holds of every state from which a method starts: classes, nest links, statics, places apart -/
def GS (g : CX) (U : State) : Prop := va_K g.1 vwCl (tysW g) U ∧ NW U ∧ AD g ∧ STA g U U.heap
/-- the world holds the state σ; since the entry nothing else was written -/
def HW (g : CX) (σ : ST) (s : State) (H : Heap) (locs : List Loc) : Prop := va_P g.1 vwCl (wW g σ) H ∧ va_S (Aw g) s.heap H locs
def XPre (g : CX) (av : List Value) (σ : ST) : Array Value → State → Prop := va_Pc av (fun U => va_P g.1 vwCl (wW g σ) U.heap ∧ GS g U)
def XB (g : CX) (σ : ST) (t : State) : Prop := va_P g.1 vwCl (wW g σ) t.heap
abbrev XQi (g : CX) (post : Int32 → ST → Prop) : Array Value → State → Outcome → State → Prop := va_Qi post (XB g) (Aw g)
abbrev XQl (g : CX) (post : Int64 → ST → Prop) : Array Value → State → Outcome → State → Prop := va_Ql post (XB g) (Aw g)
abbrev XQv (g : CX) (post : ST → Prop) : Array Value → State → Outcome → State → Prop := va_Qv post (XB g) (Aw g)
abbrev XQr (g : CX) (post : Nat → ST → Prop) : Array Value → State → Outcome → State → Prop := va_Qr (S := Nat × ST) (fun u => post u.1 u.2) (fun u a t => a = g.2.1 u.1 ∧ XB g u.2 t) (Aw g)
/-- a contract of a method that makes no cells -/
def XM (l : Launch) (g : CX) (y : MethodName) (ws : List Cond) (rm : Room) (av : List Value) (σ : ST) (Qc : Array Value → State → Outcome → State → Prop) : Prop := Met l y ws rm (XPre g av σ) Qc 0 0 (Aw g)
theorem GS.go {g : CX} {s U : State} {H : Heap} {locs : List Loc} (h : GS g s) (hS : va_S (Aw g) s.heap H locs) (hU : U.heap = H) (hW : s.WarmedH U.vm) : GS g U := by
  refine ⟨va_K.moved hW.alike h.1, NW.warm hW h.2.1, h.2.2.1, ?_⟩
  rw [hU]
  exact (h.2.2.2.kept hS.2.1).moved hW.alike
theorem XPre.blind {g : CX} {av : List Value} {σ : ST} : FrameBlind (XPre g av σ) := by
  intro a U f mk q
  obtain ⟨q1, q2, q3, q4, q5, q6⟩ := q
  exact ⟨q1, q2, va_K.moved (u := U) (U := U.calling f mk a) (Vm.Alike.refl U.vm) q3, q4.calling, q5, q6.moved (u := U) (U := U.calling f mk a) (Vm.Alike.refl U.vm)⟩
theorem wW_len (g : CX) (σ : ST) : (wW g σ).length = 108 := rfl
theorem wW_ad (g : CX) (σ : ST) : (wW g σ).map (fun q => q.1) = (List.range 108).map g.2.1 := rfl
theorem wW_D {g : CX} (h : AD g) (σ : ST) : va_D (Aw g) (wW g σ) := by
  have key : ∀ (i : Nat) (p : Nat × va_E), (wW g σ)[i]? = some p → i < 108 ∧ p.1 = g.2.1 i := by
    intro i p hp
    have hi : i < 108 := by
      have := (List.getElem?_eq_some_iff.mp hp).1
      rw [wW_len] at this
      exact this
    have h1 : ((wW g σ).map (fun q => q.1))[i]? = some p.1 := by rw [List.getElem?_map, hp]; rfl
    rw [wW_ad, List.getElem?_map, List.getElem?_range hi] at h1
    exact ⟨hi, (Option.some.inj h1).symm⟩
  refine ⟨fun i j p q hp hq e => ?_, fun k q hq => ?_⟩
  · obtain ⟨a1, a2⟩ := key i p hp
    obtain ⟨b1, b2⟩ := key j q hq
    exact h i j a1 b1 (by rw [← a2, ← b2]; exact e)
  · obtain ⟨a1, a2⟩ := key k q hq
    exact ⟨k, a1, a2⟩
/-- the array in cell k, of n places, is the state's array a -/
def IA (g : CX) (k n a : Nat) (ty : FieldType) : Prop := (∀ σ : ST, (wW g σ)[k]? = some (g.2.1 k, .inl (g.2.2 a, n, .inl (σ.2.2 a))) ∧ ∀ f : Nat → Int32, (wW g σ).set k (g.2.1 k, .inl (g.2.2 a, n, .inl f)) = wW g (sA σ a f)) ∧ (tysW g)[a]? = some (g.2.2 a, ty)
/-- field j of the object in cell k is the state's int i; its long; the cell k2 -/
def FI (g : CX) (k ci j i : Nat) : Prop := ∀ σ : ST, ∃ fs : List Value, (wW g σ)[k]? = some (g.2.1 k, .inr (ci, fs)) ∧ fs[j]? = some (.int (σ.1 i)) ∧ j < fs.length ∧ ∀ v : Int32, (wW g σ).set k (g.2.1 k, .inr (ci, fs.set j (.int v))) = wW g (sI σ i v)
def FL (g : CX) (k ci j i : Nat) : Prop := ∀ σ : ST, ∃ fs : List Value, (wW g σ)[k]? = some (g.2.1 k, .inr (ci, fs)) ∧ fs[j]? = some (.long (σ.2.1 i)) ∧ j < fs.length ∧ ∀ v : Int64, (wW g σ).set k (g.2.1 k, .inr (ci, fs.set j (.long v))) = wW g (sL σ i v)
def FR (g : CX) (k ci j k2 : Nat) : Prop := ∀ σ : ST, ∃ fs : List Value, (wW g σ)[k]? = some (g.2.1 k, .inr (ci, fs)) ∧ fs[j]? = some (.ref (g.2.1 k2))
def FG (g : CX) (k n a k0 : Nat) : Prop := (∀ σ : ST, (wW g σ)[k]? = some (g.2.1 k, .inl (g.2.2 a, n, .inr (.inr (.inr (.inr (wG g k0 n))))))) ∧ (tysW g)[a]? = some (g.2.2 a, .array .int)
def OC (g : CX) (k ci : Nat) : Prop := ∀ σ : ST, ∃ fs : List Value, (wW g σ)[k]? = some (g.2.1 k, .inr (ci, fs))
theorem ia_rt_bytes (g : CX) : IA g 2 200 0 .int := ⟨fun σ => ⟨rfl, fun f => rfl⟩, rfl⟩
theorem ia_rt_now (g : CX) : IA g 3 6 1 .int := ⟨fun σ => ⟨rfl, fun f => rfl⟩, rfl⟩
theorem ia_rt_told (g : CX) : IA g 4 6 2 .int := ⟨fun σ => ⟨rfl, fun f => rfl⟩, rfl⟩
theorem ia_bk_numbers (g : CX) : IA g 6 192 3 .int := ⟨fun σ => ⟨rfl, fun f => rfl⟩, rfl⟩
theorem ia_bk_isDeaf (g : CX) : IA g 7 48 4 .boolean := ⟨fun σ => ⟨rfl, fun f => rfl⟩, rfl⟩
theorem ia_bk_isOut (g : CX) : IA g 8 48 5 .boolean := ⟨fun σ => ⟨rfl, fun f => rfl⟩, rfl⟩
theorem ia_bk_truthOf (g : CX) : IA g 9 48 6 .int := ⟨fun σ => ⟨rfl, fun f => rfl⟩, rfl⟩
theorem ia_ga_sorted_0 (g : CX) : IA g 12 48 8 .int := ⟨fun σ => ⟨rfl, fun f => rfl⟩, rfl⟩
theorem ia_ga_sorted_1 (g : CX) : IA g 13 48 9 .int := ⟨fun σ => ⟨rfl, fun f => rfl⟩, rfl⟩
theorem ia_ga_sorted_2 (g : CX) : IA g 14 48 10 .int := ⟨fun σ => ⟨rfl, fun f => rfl⟩, rfl⟩
theorem ia_ga_sorted_3 (g : CX) : IA g 15 48 11 .int := ⟨fun σ => ⟨rfl, fun f => rfl⟩, rfl⟩
theorem ia_cu_first (g : CX) : IA g 17 48 12 .int := ⟨fun σ => ⟨rfl, fun f => rfl⟩, rfl⟩
theorem ia_cu_size (g : CX) : IA g 18 48 13 .int := ⟨fun σ => ⟨rfl, fun f => rfl⟩, rfl⟩
theorem ia_cu_spread (g : CX) : IA g 19 48 14 .int := ⟨fun σ => ⟨rfl, fun f => rfl⟩, rfl⟩
theorem ia_cu_middles (g : CX) : IA g 20 192 15 .int := ⟨fun σ => ⟨rfl, fun f => rfl⟩, rfl⟩
theorem ia_cu_stretchOf (g : CX) : IA g 21 48 16 .int := ⟨fun σ => ⟨rfl, fun f => rfl⟩, rfl⟩
theorem ia_cu_pieceOf (g : CX) : IA g 22 48 17 .int := ⟨fun σ => ⟨rfl, fun f => rfl⟩, rfl⟩
theorem ia_cu_cost (g : CX) : IA g 23 49 18 .int := ⟨fun σ => ⟨rfl, fun f => rfl⟩, rfl⟩
theorem ia_cu_most (g : CX) : IA g 24 48 19 .int := ⟨fun σ => ⟨rfl, fun f => rfl⟩, rfl⟩
theorem ia_bo_bond_0 (g : CX) : IA g 27 9 21 .int := ⟨fun σ => ⟨rfl, fun f => rfl⟩, rfl⟩
theorem ia_bo_bond_1 (g : CX) : IA g 28 9 22 .int := ⟨fun σ => ⟨rfl, fun f => rfl⟩, rfl⟩
theorem ia_bo_bond_2 (g : CX) : IA g 29 9 23 .int := ⟨fun σ => ⟨rfl, fun f => rfl⟩, rfl⟩
theorem ia_bo_bond_3 (g : CX) : IA g 30 9 24 .int := ⟨fun σ => ⟨rfl, fun f => rfl⟩, rfl⟩
theorem ia_bo_bond_4 (g : CX) : IA g 31 9 25 .int := ⟨fun σ => ⟨rfl, fun f => rfl⟩, rfl⟩
theorem ia_bo_bond_5 (g : CX) : IA g 32 9 26 .int := ⟨fun σ => ⟨rfl, fun f => rfl⟩, rfl⟩
theorem ia_bo_bond_6 (g : CX) : IA g 33 9 27 .int := ⟨fun σ => ⟨rfl, fun f => rfl⟩, rfl⟩
theorem ia_bo_bond_7 (g : CX) : IA g 34 9 28 .int := ⟨fun σ => ⟨rfl, fun f => rfl⟩, rfl⟩
theorem ia_bo_bond_8 (g : CX) : IA g 35 9 29 .int := ⟨fun σ => ⟨rfl, fun f => rfl⟩, rfl⟩
theorem ia_bo_link_0 (g : CX) : IA g 37 9 31 .int := ⟨fun σ => ⟨rfl, fun f => rfl⟩, rfl⟩
theorem ia_bo_link_1 (g : CX) : IA g 38 9 32 .int := ⟨fun σ => ⟨rfl, fun f => rfl⟩, rfl⟩
theorem ia_bo_link_2 (g : CX) : IA g 39 9 33 .int := ⟨fun σ => ⟨rfl, fun f => rfl⟩, rfl⟩
theorem ia_bo_link_3 (g : CX) : IA g 40 9 34 .int := ⟨fun σ => ⟨rfl, fun f => rfl⟩, rfl⟩
theorem ia_bo_link_4 (g : CX) : IA g 41 9 35 .int := ⟨fun σ => ⟨rfl, fun f => rfl⟩, rfl⟩
theorem ia_bo_link_5 (g : CX) : IA g 42 9 36 .int := ⟨fun σ => ⟨rfl, fun f => rfl⟩, rfl⟩
theorem ia_bo_link_6 (g : CX) : IA g 43 9 37 .int := ⟨fun σ => ⟨rfl, fun f => rfl⟩, rfl⟩
theorem ia_bo_link_7 (g : CX) : IA g 44 9 38 .int := ⟨fun σ => ⟨rfl, fun f => rfl⟩, rfl⟩
theorem ia_bo_link_8 (g : CX) : IA g 45 9 39 .int := ⟨fun σ => ⟨rfl, fun f => rfl⟩, rfl⟩
theorem ia_bo_gain (g : CX) : IA g 46 512 40 .int := ⟨fun σ => ⟨rfl, fun f => rfl⟩, rfl⟩
theorem ia_be_heapOf (g : CX) : IA g 49 9 41 .int := ⟨fun σ => ⟨rfl, fun f => rfl⟩, rfl⟩
theorem ia_be_renamed (g : CX) : IA g 50 9 42 .int := ⟨fun σ => ⟨rfl, fun f => rfl⟩, rfl⟩
theorem ia_be_middles (g : CX) : IA g 51 36 43 .int := ⟨fun σ => ⟨rfl, fun f => rfl⟩, rfl⟩
theorem ia_al_heapOf (g : CX) : IA g 52 9 44 .int := ⟨fun σ => ⟨rfl, fun f => rfl⟩, rfl⟩
theorem ia_al_members (g : CX) : IA g 53 9 45 .int := ⟨fun σ => ⟨rfl, fun f => rfl⟩, rfl⟩
theorem ia_jo_heapOf (g : CX) : IA g 55 9 46 .int := ⟨fun σ => ⟨rfl, fun f => rfl⟩, rfl⟩
theorem ia_jo_renamed (g : CX) : IA g 56 9 47 .int := ⟨fun σ => ⟨rfl, fun f => rfl⟩, rfl⟩
theorem ia_jo_middles (g : CX) : IA g 57 36 48 .int := ⟨fun σ => ⟨rfl, fun f => rfl⟩, rfl⟩
theorem ia_ke_names (g : CX) : IA g 59 6 49 .int := ⟨fun σ => ⟨rfl, fun f => rfl⟩, rfl⟩
theorem ia_ke_middles (g : CX) : IA g 60 24 50 .int := ⟨fun σ => ⟨rfl, fun f => rfl⟩, rfl⟩
theorem ia_ke_offs (g : CX) : IA g 61 512 51 .int := ⟨fun σ => ⟨rfl, fun f => rfl⟩, rfl⟩
theorem ia_wb_from (g : CX) : IA g 63 12 52 .int := ⟨fun σ => ⟨rfl, fun f => rfl⟩, rfl⟩
theorem ia_wb_to (g : CX) : IA g 64 12 53 .int := ⟨fun σ => ⟨rfl, fun f => rfl⟩, rfl⟩
theorem ia_ve_together_0 (g : CX) : IA g 67 5 55 .int := ⟨fun σ => ⟨rfl, fun f => rfl⟩, rfl⟩
theorem ia_ve_together_1 (g : CX) : IA g 68 5 56 .int := ⟨fun σ => ⟨rfl, fun f => rfl⟩, rfl⟩
theorem ia_ve_together_2 (g : CX) : IA g 69 5 57 .int := ⟨fun σ => ⟨rfl, fun f => rfl⟩, rfl⟩
theorem ia_ve_together_3 (g : CX) : IA g 70 5 58 .int := ⟨fun σ => ⟨rfl, fun f => rfl⟩, rfl⟩
theorem ia_ve_together_4 (g : CX) : IA g 71 5 59 .int := ⟨fun σ => ⟨rfl, fun f => rfl⟩, rfl⟩
theorem ia_ve_together_5 (g : CX) : IA g 72 5 60 .int := ⟨fun σ => ⟨rfl, fun f => rfl⟩, rfl⟩
theorem ia_ve_together_6 (g : CX) : IA g 73 5 61 .int := ⟨fun σ => ⟨rfl, fun f => rfl⟩, rfl⟩
theorem ia_ve_together_7 (g : CX) : IA g 74 5 62 .int := ⟨fun σ => ⟨rfl, fun f => rfl⟩, rfl⟩
theorem ia_ve_together_8 (g : CX) : IA g 75 5 63 .int := ⟨fun σ => ⟨rfl, fun f => rfl⟩, rfl⟩
theorem ia_ve_right (g : CX) : IA g 76 32 64 .int := ⟨fun σ => ⟨rfl, fun f => rfl⟩, rfl⟩
theorem ia_vh_shownHeap (g : CX) : IA g 78 48 65 .int := ⟨fun σ => ⟨rfl, fun f => rfl⟩, rfl⟩
theorem ia_mo_rule (g : CX) : IA g 80 12 66 .int := ⟨fun σ => ⟨rfl, fun f => rfl⟩, rfl⟩
theorem ia_mo_text (g : CX) : IA g 81 200 67 .byte := ⟨fun σ => ⟨rfl, fun f => rfl⟩, rfl⟩
theorem ia_mo_number (g : CX) : IA g 82 192 68 .int := ⟨fun σ => ⟨rfl, fun f => rfl⟩, rfl⟩
theorem ia_mo_isDeaf (g : CX) : IA g 83 48 69 .boolean := ⟨fun σ => ⟨rfl, fun f => rfl⟩, rfl⟩
theorem ia_mo_isOut (g : CX) : IA g 84 48 70 .boolean := ⟨fun σ => ⟨rfl, fun f => rfl⟩, rfl⟩
theorem ia_mo_truth (g : CX) : IA g 85 48 71 .int := ⟨fun σ => ⟨rfl, fun f => rfl⟩, rfl⟩
theorem ia_mo_wordFrom (g : CX) : IA g 86 12 72 .int := ⟨fun σ => ⟨rfl, fun f => rfl⟩, rfl⟩
theorem ia_mo_wordTo (g : CX) : IA g 87 12 73 .int := ⟨fun σ => ⟨rfl, fun f => rfl⟩, rfl⟩
theorem ia_mo_shownHeap (g : CX) : IA g 88 48 74 .int := ⟨fun σ => ⟨rfl, fun f => rfl⟩, rfl⟩
theorem ia_mo_first (g : CX) : IA g 89 48 75 .int := ⟨fun σ => ⟨rfl, fun f => rfl⟩, rfl⟩
theorem ia_mo_many (g : CX) : IA g 90 48 76 .int := ⟨fun σ => ⟨rfl, fun f => rfl⟩, rfl⟩
theorem ia_mo_pieceOf (g : CX) : IA g 91 48 77 .int := ⟨fun σ => ⟨rfl, fun f => rfl⟩, rfl⟩
theorem ia_mo_middle (g : CX) : IA g 92 192 78 .int := ⟨fun σ => ⟨rfl, fun f => rfl⟩, rfl⟩
theorem ia_mo_spread (g : CX) : IA g 93 48 79 .int := ⟨fun σ => ⟨rfl, fun f => rfl⟩, rfl⟩
theorem ia_mo_isAsked (g : CX) : IA g 94 48 80 .boolean := ⟨fun σ => ⟨rfl, fun f => rfl⟩, rfl⟩
theorem ia_mo_mid (g : CX) : IA g 95 4 81 .int := ⟨fun σ => ⟨rfl, fun f => rfl⟩, rfl⟩
theorem ia_mo_line (g : CX) : IA g 96 48 82 .int := ⟨fun σ => ⟨rfl, fun f => rfl⟩, rfl⟩
theorem ia_mo_least (g : CX) : IA g 97 49 83 .int := ⟨fun σ => ⟨rfl, fun f => rfl⟩, rfl⟩
theorem ia_mo_taken (g : CX) : IA g 98 48 84 .int := ⟨fun σ => ⟨rfl, fun f => rfl⟩, rfl⟩
theorem ia_mo_heap (g : CX) : IA g 99 10 85 .int := ⟨fun σ => ⟨rfl, fun f => rfl⟩, rfl⟩
theorem ia_mo_best (g : CX) : IA g 100 10 86 .int := ⟨fun σ => ⟨rfl, fun f => rfl⟩, rfl⟩
theorem ia_mo_joined (g : CX) : IA g 101 10 87 .int := ⟨fun σ => ⟨rfl, fun f => rfl⟩, rfl⟩
theorem ia_mo_gain (g : CX) : IA g 102 81 88 .int := ⟨fun σ => ⟨rfl, fun f => rfl⟩, rfl⟩
theorem ia_mo_heapMiddle (g : CX) : IA g 103 36 89 .int := ⟨fun σ => ⟨rfl, fun f => rfl⟩, rfl⟩
theorem ia_mo_name (g : CX) : IA g 104 6 90 .int := ⟨fun σ => ⟨rfl, fun f => rfl⟩, rfl⟩
theorem ia_mo_voice (g : CX) : IA g 105 24 91 .int := ⟨fun σ => ⟨rfl, fun f => rfl⟩, rfl⟩
theorem ia_mo_right (g : CX) : IA g 106 3072 92 .int := ⟨fun σ => ⟨rfl, fun f => rfl⟩, rfl⟩
theorem ia_mo_pairs (g : CX) : IA g 107 54 93 .int := ⟨fun σ => ⟨rfl, fun f => rfl⟩, rfl⟩
theorem fg_ga_sorted (g : CX) : FG g 11 4 7 12 := ⟨fun σ => rfl, rfl⟩
theorem fg_bo_bond (g : CX) : FG g 26 9 20 27 := ⟨fun σ => rfl, rfl⟩
theorem fg_bo_link (g : CX) : FG g 36 9 30 37 := ⟨fun σ => rfl, rfl⟩
theorem fg_ve_together (g : CX) : FG g 66 9 54 67 := ⟨fun σ => rfl, rfl⟩
theorem fr_rt_bytes (g : CX) : FR g 1 8 0 2 := fun σ => ⟨_, rfl, rfl⟩
theorem fr_rt_now (g : CX) : FR g 1 8 1 3 := fun σ => ⟨_, rfl, rfl⟩
theorem fr_rt_told (g : CX) : FR g 1 8 2 4 := fun σ => ⟨_, rfl, rfl⟩
theorem fi_rt_length (g : CX) : FI g 1 8 3 0 := fun σ => ⟨_, rfl, rfl, Nat.le_of_ble_eq_true rfl, fun v => rfl⟩
theorem fi_rt_at (g : CX) : FI g 1 8 4 1 := fun σ => ⟨_, rfl, rfl, Nat.le_of_ble_eq_true rfl, fun v => rfl⟩
theorem fr_vh_ruleText (g : CX) : FR g 0 11 0 1 := fun σ => ⟨_, rfl, rfl⟩
theorem fr_bk_numbers (g : CX) : FR g 5 7 0 6 := fun σ => ⟨_, rfl, rfl⟩
theorem fr_bk_isDeaf (g : CX) : FR g 5 7 1 7 := fun σ => ⟨_, rfl, rfl⟩
theorem fr_bk_isOut (g : CX) : FR g 5 7 2 8 := fun σ => ⟨_, rfl, rfl⟩
theorem fr_bk_truthOf (g : CX) : FR g 5 7 3 9 := fun σ => ⟨_, rfl, rfl⟩
theorem fi_bk_rows (g : CX) : FI g 5 7 4 2 := fun σ => ⟨_, rfl, rfl, Nat.le_of_ble_eq_true rfl, fun v => rfl⟩
theorem fr_vh_book (g : CX) : FR g 0 11 1 5 := fun σ => ⟨_, rfl, rfl⟩
theorem fr_ga_sorted (g : CX) : FR g 10 3 0 11 := fun σ => ⟨_, rfl, rfl⟩
theorem fi_ga_rows (g : CX) : FI g 10 3 1 3 := fun σ => ⟨_, rfl, rfl, Nat.le_of_ble_eq_true rfl, fun v => rfl⟩
theorem fi_ga_spread (g : CX) : FI g 10 3 2 4 := fun σ => ⟨_, rfl, rfl, Nat.le_of_ble_eq_true rfl, fun v => rfl⟩
theorem fr_vh_gathering (g : CX) : FR g 0 11 2 10 := fun σ => ⟨_, rfl, rfl⟩
theorem fr_cu_first (g : CX) : FR g 16 2 0 17 := fun σ => ⟨_, rfl, rfl⟩
theorem fr_cu_size (g : CX) : FR g 16 2 1 18 := fun σ => ⟨_, rfl, rfl⟩
theorem fr_cu_spread (g : CX) : FR g 16 2 2 19 := fun σ => ⟨_, rfl, rfl⟩
theorem fr_cu_middles (g : CX) : FR g 16 2 3 20 := fun σ => ⟨_, rfl, rfl⟩
theorem fr_cu_stretchOf (g : CX) : FR g 16 2 4 21 := fun σ => ⟨_, rfl, rfl⟩
theorem fr_cu_pieceOf (g : CX) : FR g 16 2 5 22 := fun σ => ⟨_, rfl, rfl⟩
theorem fr_cu_cost (g : CX) : FR g 16 2 6 23 := fun σ => ⟨_, rfl, rfl⟩
theorem fr_cu_most (g : CX) : FR g 16 2 7 24 := fun σ => ⟨_, rfl, rfl⟩
theorem fi_cu_pieces (g : CX) : FI g 16 2 8 5 := fun σ => ⟨_, rfl, rfl, Nat.le_of_ble_eq_true rfl, fun v => rfl⟩
theorem fi_cu_stretches (g : CX) : FI g 16 2 9 6 := fun σ => ⟨_, rfl, rfl, Nat.le_of_ble_eq_true rfl, fun v => rfl⟩
theorem fi_cu_total (g : CX) : FI g 16 2 10 7 := fun σ => ⟨_, rfl, rfl, Nat.le_of_ble_eq_true rfl, fun v => rfl⟩
theorem fi_cu_heardRows (g : CX) : FI g 16 2 11 8 := fun σ => ⟨_, rfl, rfl, Nat.le_of_ble_eq_true rfl, fun v => rfl⟩
theorem fr_vh_cutting (g : CX) : FR g 0 11 3 16 := fun σ => ⟨_, rfl, rfl⟩
theorem fr_bo_bond (g : CX) : FR g 25 1 0 26 := fun σ => ⟨_, rfl, rfl⟩
theorem fr_bo_link (g : CX) : FR g 25 1 1 36 := fun σ => ⟨_, rfl, rfl⟩
theorem fr_bo_gain (g : CX) : FR g 25 1 2 46 := fun σ => ⟨_, rfl, rfl⟩
theorem fi_bo_pieces (g : CX) : FI g 25 1 3 9 := fun σ => ⟨_, rfl, rfl, Nat.le_of_ble_eq_true rfl, fun v => rfl⟩
theorem fr_vh_bonds (g : CX) : FR g 0 11 4 25 := fun σ => ⟨_, rfl, rfl⟩
theorem fr_be_heapOf (g : CX) : FR g 48 4 0 49 := fun σ => ⟨_, rfl, rfl⟩
theorem fr_be_renamed (g : CX) : FR g 48 4 1 50 := fun σ => ⟨_, rfl, rfl⟩
theorem fr_be_middles (g : CX) : FR g 48 4 2 51 := fun σ => ⟨_, rfl, rfl⟩
theorem fi_be_heaps (g : CX) : FI g 48 4 3 10 := fun σ => ⟨_, rfl, rfl, Nat.le_of_ble_eq_true rfl, fun v => rfl⟩
theorem fi_be_value (g : CX) : FI g 48 4 4 11 := fun σ => ⟨_, rfl, rfl, Nat.le_of_ble_eq_true rfl, fun v => rfl⟩
theorem fr_al_best (g : CX) : FR g 47 0 0 48 := fun σ => ⟨_, rfl, rfl⟩
theorem fr_al_heapOf (g : CX) : FR g 47 0 1 52 := fun σ => ⟨_, rfl, rfl⟩
theorem fr_al_members (g : CX) : FR g 47 0 2 53 := fun σ => ⟨_, rfl, rfl⟩
theorem fi_al_isForNear (g : CX) : FI g 47 0 3 12 := fun σ => ⟨_, rfl, rfl, Nat.le_of_ble_eq_true rfl, fun v => rfl⟩
theorem fi_al_least (g : CX) : FI g 47 0 4 13 := fun σ => ⟨_, rfl, rfl, Nat.le_of_ble_eq_true rfl, fun v => rfl⟩
theorem fi_al_nearOnes (g : CX) : FI g 47 0 5 14 := fun σ => ⟨_, rfl, rfl, Nat.le_of_ble_eq_true rfl, fun v => rfl⟩
theorem fi_al_fewest (g : CX) : FI g 47 0 6 15 := fun σ => ⟨_, rfl, rfl, Nat.le_of_ble_eq_true rfl, fun v => rfl⟩
theorem fi_al_most (g : CX) : FI g 47 0 7 16 := fun σ => ⟨_, rfl, rfl, Nat.le_of_ble_eq_true rfl, fun v => rfl⟩
theorem fl_al_always (g : CX) : FL g 47 0 8 0 := fun σ => ⟨_, rfl, rfl, Nat.le_of_ble_eq_true rfl, fun v => rfl⟩
theorem fl_al_ever (g : CX) : FL g 47 0 9 1 := fun σ => ⟨_, rfl, rfl, Nat.le_of_ble_eq_true rfl, fun v => rfl⟩
theorem fr_vh_all (g : CX) : FR g 0 11 5 47 := fun σ => ⟨_, rfl, rfl⟩
theorem fr_jo_heapOf (g : CX) : FR g 54 4 0 55 := fun σ => ⟨_, rfl, rfl⟩
theorem fr_jo_renamed (g : CX) : FR g 54 4 1 56 := fun σ => ⟨_, rfl, rfl⟩
theorem fr_jo_middles (g : CX) : FR g 54 4 2 57 := fun σ => ⟨_, rfl, rfl⟩
theorem fi_jo_heaps (g : CX) : FI g 54 4 3 17 := fun σ => ⟨_, rfl, rfl, Nat.le_of_ble_eq_true rfl, fun v => rfl⟩
theorem fi_jo_value (g : CX) : FI g 54 4 4 18 := fun σ => ⟨_, rfl, rfl, Nat.le_of_ble_eq_true rfl, fun v => rfl⟩
theorem fr_vh_joined (g : CX) : FR g 0 11 6 54 := fun σ => ⟨_, rfl, rfl⟩
theorem fr_ke_names (g : CX) : FR g 58 5 0 59 := fun σ => ⟨_, rfl, rfl⟩
theorem fr_ke_middles (g : CX) : FR g 58 5 1 60 := fun σ => ⟨_, rfl, rfl⟩
theorem fr_ke_offs (g : CX) : FR g 58 5 2 61 := fun σ => ⟨_, rfl, rfl⟩
theorem fi_ke_voices (g : CX) : FI g 58 5 3 19 := fun σ => ⟨_, rfl, rfl, Nat.le_of_ble_eq_true rfl, fun v => rfl⟩
theorem fr_vh_kept (g : CX) : FR g 0 11 7 58 := fun σ => ⟨_, rfl, rfl⟩
theorem fr_wb_from (g : CX) : FR g 62 10 0 63 := fun σ => ⟨_, rfl, rfl⟩
theorem fr_wb_to (g : CX) : FR g 62 10 1 64 := fun σ => ⟨_, rfl, rfl⟩
theorem fi_wb_words (g : CX) : FI g 62 10 2 20 := fun σ => ⟨_, rfl, rfl, Nat.le_of_ble_eq_true rfl, fun v => rfl⟩
theorem fr_vh_wordBook (g : CX) : FR g 0 11 8 62 := fun σ => ⟨_, rfl, rfl⟩
theorem fr_ve_together (g : CX) : FR g 65 9 0 66 := fun σ => ⟨_, rfl, rfl⟩
theorem fr_ve_right (g : CX) : FR g 65 9 1 76 := fun σ => ⟨_, rfl, rfl⟩
theorem fr_vh_verdict (g : CX) : FR g 0 11 9 65 := fun σ => ⟨_, rfl, rfl⟩
theorem fl_ki_asked (g : CX) : FL g 77 6 0 2 := fun σ => ⟨_, rfl, rfl, Nat.le_of_ble_eq_true rfl, fun v => rfl⟩
theorem fr_vh_kinds (g : CX) : FR g 0 11 10 77 := fun σ => ⟨_, rfl, rfl⟩
theorem fr_vh_shownHeap (g : CX) : FR g 0 11 11 78 := fun σ => ⟨_, rfl, rfl⟩
theorem fi_vh_shownRows (g : CX) : FI g 0 11 12 21 := fun σ => ⟨_, rfl, rfl, Nat.le_of_ble_eq_true rfl, fun v => rfl⟩
theorem fi_vh_cutIsOld (g : CX) : FI g 0 11 13 22 := fun σ => ⟨_, rfl, rfl, Nat.le_of_ble_eq_true rfl, fun v => rfl⟩
theorem fi_vh_heapsAreOld (g : CX) : FI g 0 11 14 23 := fun σ => ⟨_, rfl, rfl, Nat.le_of_ble_eq_true rfl, fun v => rfl⟩
theorem fi_vh_nearIsOld (g : CX) : FI g 0 11 15 24 := fun σ => ⟨_, rfl, rfl, Nat.le_of_ble_eq_true rfl, fun v => rfl⟩
theorem fl_mo_trace (g : CX) : FL g 79 12 0 3 := fun σ => ⟨_, rfl, rfl, Nat.le_of_ble_eq_true rfl, fun v => rfl⟩
theorem fr_mo_rule (g : CX) : FR g 79 12 1 80 := fun σ => ⟨_, rfl, rfl⟩
theorem fr_mo_text (g : CX) : FR g 79 12 2 81 := fun σ => ⟨_, rfl, rfl⟩
theorem fi_mo_typed (g : CX) : FI g 79 12 3 25 := fun σ => ⟨_, rfl, rfl, Nat.le_of_ble_eq_true rfl, fun v => rfl⟩
theorem fi_mo_at (g : CX) : FI g 79 12 4 26 := fun σ => ⟨_, rfl, rfl, Nat.le_of_ble_eq_true rfl, fun v => rfl⟩
theorem fi_mo_start (g : CX) : FI g 79 12 5 27 := fun σ => ⟨_, rfl, rfl, Nat.le_of_ble_eq_true rfl, fun v => rfl⟩
theorem fi_mo_sort (g : CX) : FI g 79 12 6 28 := fun σ => ⟨_, rfl, rfl, Nat.le_of_ble_eq_true rfl, fun v => rfl⟩
theorem fi_mo_value (g : CX) : FI g 79 12 7 29 := fun σ => ⟨_, rfl, rfl, Nat.le_of_ble_eq_true rfl, fun v => rfl⟩
theorem fi_mo_fault (g : CX) : FI g 79 12 8 30 := fun σ => ⟨_, rfl, rfl, Nat.le_of_ble_eq_true rfl, fun v => rfl⟩
theorem fi_mo_rows (g : CX) : FI g 79 12 9 31 := fun σ => ⟨_, rfl, rfl, Nat.le_of_ble_eq_true rfl, fun v => rfl⟩
theorem fr_mo_number (g : CX) : FR g 79 12 10 82 := fun σ => ⟨_, rfl, rfl⟩
theorem fr_mo_isDeaf (g : CX) : FR g 79 12 11 83 := fun σ => ⟨_, rfl, rfl⟩
theorem fr_mo_isOut (g : CX) : FR g 79 12 12 84 := fun σ => ⟨_, rfl, rfl⟩
theorem fr_mo_truth (g : CX) : FR g 79 12 13 85 := fun σ => ⟨_, rfl, rfl⟩
theorem fi_mo_words (g : CX) : FI g 79 12 14 32 := fun σ => ⟨_, rfl, rfl, Nat.le_of_ble_eq_true rfl, fun v => rfl⟩
theorem fr_mo_wordFrom (g : CX) : FR g 79 12 15 86 := fun σ => ⟨_, rfl, rfl⟩
theorem fr_mo_wordTo (g : CX) : FR g 79 12 16 87 := fun σ => ⟨_, rfl, rfl⟩
theorem fi_mo_shown (g : CX) : FI g 79 12 17 33 := fun σ => ⟨_, rfl, rfl, Nat.le_of_ble_eq_true rfl, fun v => rfl⟩
theorem fi_mo_isShown (g : CX) : FI g 79 12 18 34 := fun σ => ⟨_, rfl, rfl, Nat.le_of_ble_eq_true rfl, fun v => rfl⟩
theorem fr_mo_shownHeap (g : CX) : FR g 79 12 19 88 := fun σ => ⟨_, rfl, rfl⟩
theorem fi_mo_pieces (g : CX) : FI g 79 12 20 35 := fun σ => ⟨_, rfl, rfl, Nat.le_of_ble_eq_true rfl, fun v => rfl⟩
theorem fi_mo_stretches (g : CX) : FI g 79 12 21 36 := fun σ => ⟨_, rfl, rfl, Nat.le_of_ble_eq_true rfl, fun v => rfl⟩
theorem fi_mo_price (g : CX) : FI g 79 12 22 37 := fun σ => ⟨_, rfl, rfl, Nat.le_of_ble_eq_true rfl, fun v => rfl⟩
theorem fr_mo_first (g : CX) : FR g 79 12 23 89 := fun σ => ⟨_, rfl, rfl⟩
theorem fr_mo_many (g : CX) : FR g 79 12 24 90 := fun σ => ⟨_, rfl, rfl⟩
theorem fr_mo_pieceOf (g : CX) : FR g 79 12 25 91 := fun σ => ⟨_, rfl, rfl⟩
theorem fr_mo_middle (g : CX) : FR g 79 12 26 92 := fun σ => ⟨_, rfl, rfl⟩
theorem fr_mo_spread (g : CX) : FR g 79 12 27 93 := fun σ => ⟨_, rfl, rfl⟩
theorem fr_mo_isAsked (g : CX) : FR g 79 12 28 94 := fun σ => ⟨_, rfl, rfl⟩
theorem fr_mo_mid (g : CX) : FR g 79 12 29 95 := fun σ => ⟨_, rfl, rfl⟩
theorem fi_mo_apart (g : CX) : FI g 79 12 30 38 := fun σ => ⟨_, rfl, rfl, Nat.le_of_ble_eq_true rfl, fun v => rfl⟩
theorem fr_mo_line (g : CX) : FR g 79 12 31 96 := fun σ => ⟨_, rfl, rfl⟩
theorem fr_mo_least (g : CX) : FR g 79 12 32 97 := fun σ => ⟨_, rfl, rfl⟩
theorem fr_mo_taken (g : CX) : FR g 79 12 33 98 := fun σ => ⟨_, rfl, rfl⟩
theorem fr_mo_heap (g : CX) : FR g 79 12 34 99 := fun σ => ⟨_, rfl, rfl⟩
theorem fr_mo_best (g : CX) : FR g 79 12 35 100 := fun σ => ⟨_, rfl, rfl⟩
theorem fr_mo_joined (g : CX) : FR g 79 12 36 101 := fun σ => ⟨_, rfl, rfl⟩
theorem fi_mo_bestWorth (g : CX) : FI g 79 12 37 39 := fun σ => ⟨_, rfl, rfl, Nat.le_of_ble_eq_true rfl, fun v => rfl⟩
theorem fr_mo_gain (g : CX) : FR g 79 12 38 102 := fun σ => ⟨_, rfl, rfl⟩
theorem fr_mo_heapMiddle (g : CX) : FR g 79 12 39 103 := fun σ => ⟨_, rfl, rfl⟩
theorem fi_mo_kept (g : CX) : FI g 79 12 40 40 := fun σ => ⟨_, rfl, rfl, Nat.le_of_ble_eq_true rfl, fun v => rfl⟩
theorem fr_mo_name (g : CX) : FR g 79 12 41 104 := fun σ => ⟨_, rfl, rfl⟩
theorem fr_mo_voice (g : CX) : FR g 79 12 42 105 := fun σ => ⟨_, rfl, rfl⟩
theorem fr_mo_right (g : CX) : FR g 79 12 43 106 := fun σ => ⟨_, rfl, rfl⟩
theorem fr_mo_pairs (g : CX) : FR g 79 12 44 107 := fun σ => ⟨_, rfl, rfl⟩
theorem oc_vh (g : CX) : OC g 0 11 := fun σ => ⟨_, rfl⟩
theorem oc_rt (g : CX) : OC g 1 8 := fun σ => ⟨_, rfl⟩
theorem oc_bk (g : CX) : OC g 5 7 := fun σ => ⟨_, rfl⟩
theorem oc_ga (g : CX) : OC g 10 3 := fun σ => ⟨_, rfl⟩
theorem oc_cu (g : CX) : OC g 16 2 := fun σ => ⟨_, rfl⟩
theorem oc_bo (g : CX) : OC g 25 1 := fun σ => ⟨_, rfl⟩
theorem oc_al (g : CX) : OC g 47 0 := fun σ => ⟨_, rfl⟩
theorem oc_be (g : CX) : OC g 48 4 := fun σ => ⟨_, rfl⟩
theorem oc_jo (g : CX) : OC g 54 4 := fun σ => ⟨_, rfl⟩
theorem oc_ke (g : CX) : OC g 58 5 := fun σ => ⟨_, rfl⟩
theorem oc_wb (g : CX) : OC g 62 10 := fun σ => ⟨_, rfl⟩
theorem oc_ve (g : CX) : OC g 65 9 := fun σ => ⟨_, rfl⟩
theorem oc_ki (g : CX) : OC g 77 6 := fun σ => ⟨_, rfl⟩
theorem oc_mo (g : CX) : OC g 79 12 := fun σ => ⟨_, rfl⟩
end
section
/-! the rows of a walk over the one world: fields, arrays, calls, ends -/
/-- what stays the same over a method's walk -/
def EV (p : Program) (s : State) (m : MethodId) (args : Array Value) (meth : Method) (c : Code) (cc : ByteArray) (own : String) (Ts : List Cond) (nL : Nat) (ret : Option FieldType) (g : CX) : Prop :=
  p.tables.exec = Jvm.exec ∧ c.code = cc ∧ c.maxLocals = nL ∧ s.vm.findClass own = some m.cls ∧ (∀ w ∈ Ts, w.before args s = true) ∧ GS g s ∧ meth.sig.returnType = ret ∧ meth.locks = false
theorem x_met {l : Launch} {g : CX} {y : MethodName} {ws ws' : List Cond} {rm : Room} {av : List Value} {σ : ST} {Qc : Array Value → State → Outcome → State → Prop} {cc : ByteArray} {maxL : Nat} {ret : Option FieldType} {own : String} {lv : List (Nat × Value)} (hy : plainName y.cls = true) (hw : ws = Cond.code y cc maxL ret :: ws') (ho : own = y.cls) (hn : (lg_sl av).length ≤ maxL) (hlv : lv_args 0 av = lv)
    (body : ∀ (p : Program) (e : Env) (s : State) (m : MethodId) (args : Array Value) (below : List Frame) (meth : Method) (c : Code) (ls : Array Slot), EV p s m args meth c cc own ws maxL ret g → HW g σ s s.heap [] → lv_has ls maxL lv → W p l e rm s m args below meth c s.heap [] 0 0 (MQ below Qc args s 0 0 (Aw g)) (F0 m 0 ls [])) : XM l g y ws rm av σ Qc := by
  refine Met.ofW (cc := cc) (maxL := maxL) (ret := ret) hy hw ?_
  intro p e s m args below meth c s₁ B hml hv
  obtain ⟨rfl, hP, hG⟩ := hv
  subst hlv
  subst ho
  have hl := lv_entry av hn
  rw [lg_entry_eq]
  exact body p e s m av.toArray below meth c _ ⟨B.exec, B.bytes, hml, findClass_of_methodNamed B.named, atoms_spec (ws := ws) B.pre, hG, B.returns, B.notSynchronized⟩ ⟨hP, va_S.rf⟩ hl
section XR
variable {p : Program} {l : Launch} {e : Env} {R : Room} {s : State} {m : MethodId} {args : Array Value} {below : List Frame} {meth : Method} {c : Code} {H : Heap} {locs : List Loc} {cells slots : Nat} {Q : State → Prop}
variable {cc : ByteArray} {pc : Nat} {ls : Array Slot} {rest : List Value} {own : String} {Ts : List Cond} {nL : Nat} {ret : Option FieldType} {g : CX} {σ : ST}
theorem x_getI (E : EV p s m args meth c cc own Ts nL ret g) (h : HW g σ s H locs) {k ci j i N idx : Nat} {C : String} {T : u_T} (F : FI g k ci j i) (hc : vwCl[ci]? = some (C, T, N)) (hin : ∀ w ∈ u_ws C T N, w ∈ Ts) (hj : j < N) (hlink : Cond.fieldLink own idx (T j).1 (T j).2.1 (T j).2.2.1 ∈ Ts) {v : Int32} (hv : σ.1 i = v) (hdg : decode cc pc = .ok (.getfield idx, 3))
    (kk : W p l e R s m args below meth c H locs cells slots Q (F0 m (pc + 3) ls (.int v :: rest))) : W p l e R s m args below meth c H locs cells slots Q (F0 m pc ls (.ref (g.2.1 k) :: rest)) := by
  subst hv
  obtain ⟨hx, hb, hml, hown, hts, hG, hr, hlk⟩ := E
  obtain ⟨fs, f1, f2, f3, f4⟩ := F σ
  exact va_get (D := g.1) (ref := (T j).1) hx hb hts hin hown hG.1 h.1 k f1 hc j hj (hts _ hlink) (fun _ q => q) f2 hdg kk
theorem x_getL (E : EV p s m args meth c cc own Ts nL ret g) (h : HW g σ s H locs) {k ci j i N idx : Nat} {C : String} {T : u_T} (F : FL g k ci j i) (hc : vwCl[ci]? = some (C, T, N)) (hin : ∀ w ∈ u_ws C T N, w ∈ Ts) (hj : j < N) (hlink : Cond.fieldLink own idx (T j).1 (T j).2.1 (T j).2.2.1 ∈ Ts) {v : Int64} (hv : σ.2.1 i = v) (hdg : decode cc pc = .ok (.getfield idx, 3))
    (kk : W p l e R s m args below meth c H locs cells slots Q (F0 m (pc + 3) ls (.long v :: rest))) : W p l e R s m args below meth c H locs cells slots Q (F0 m pc ls (.ref (g.2.1 k) :: rest)) := by
  subst hv
  obtain ⟨hx, hb, hml, hown, hts, hG, hr, hlk⟩ := E
  obtain ⟨fs, f1, f2, f3, f4⟩ := F σ
  exact va_get (D := g.1) (ref := (T j).1) hx hb hts hin hown hG.1 h.1 k f1 hc j hj (hts _ hlink) (fun _ q => q) f2 hdg kk
theorem x_getR (E : EV p s m args meth c cc own Ts nL ret g) (h : HW g σ s H locs) {k ci j k2 N idx : Nat} {C : String} {T : u_T} (F : FR g k ci j k2) (hc : vwCl[ci]? = some (C, T, N)) (hin : ∀ w ∈ u_ws C T N, w ∈ Ts) (hj : j < N) (hlink : Cond.fieldLink own idx (T j).1 (T j).2.1 (T j).2.2.1 ∈ Ts) (hdg : decode cc pc = .ok (.getfield idx, 3))
    (kk : W p l e R s m args below meth c H locs cells slots Q (F0 m (pc + 3) ls (.ref (g.2.1 k2) :: rest))) : W p l e R s m args below meth c H locs cells slots Q (F0 m pc ls (.ref (g.2.1 k) :: rest)) := by
  obtain ⟨hx, hb, hml, hown, hts, hG, hr, hlk⟩ := E
  obtain ⟨fs, f1, f2⟩ := F σ
  exact va_get (D := g.1) (ref := (T j).1) hx hb hts hin hown hG.1 h.1 k f1 hc j hj (hts _ hlink) (fun _ q => q) f2 hdg kk
theorem x_getIN (E : EV p s m args meth c cc own Ts nL ret g) (h : HW g σ s H locs) {k ci j i N idx : Nat} {C : String} {T : u_T} (F : FI g k ci j i) (hc : vwCl[ci]? = some (C, T, N)) (hin : ∀ w ∈ u_ws C T N, w ∈ Ts) (hj : j < N) (hlink : Cond.fieldLinkNest own idx (T j).1 (T j).2.1 (T j).2.2.1 "VoiceHeaps" ∈ nestF) {v : Int32} (hv : σ.1 i = v) (hdg : decode cc pc = .ok (.getfield idx, 3))
    (kk : W p l e R s m args below meth c H locs cells slots Q (F0 m (pc + 3) ls (.int v :: rest))) : W p l e R s m args below meth c H locs cells slots Q (F0 m pc ls (.ref (g.2.1 k) :: rest)) := by
  subst hv
  obtain ⟨hx, hb, hml, hown, hts, hG, hr, hlk⟩ := E
  obtain ⟨fs, f1, f2, f3, f4⟩ := F σ
  exact va_getN (D := g.1) (ref := (T j).1) hx hb hts hin hown hG.1 h.1 k f1 hc j hj (va_Nw.use rfl (hG.2.1.1 _ hlink)) (fun _ q => q) f2 hdg kk
theorem x_getLN (E : EV p s m args meth c cc own Ts nL ret g) (h : HW g σ s H locs) {k ci j i N idx : Nat} {C : String} {T : u_T} (F : FL g k ci j i) (hc : vwCl[ci]? = some (C, T, N)) (hin : ∀ w ∈ u_ws C T N, w ∈ Ts) (hj : j < N) (hlink : Cond.fieldLinkNest own idx (T j).1 (T j).2.1 (T j).2.2.1 "VoiceHeaps" ∈ nestF) {v : Int64} (hv : σ.2.1 i = v) (hdg : decode cc pc = .ok (.getfield idx, 3))
    (kk : W p l e R s m args below meth c H locs cells slots Q (F0 m (pc + 3) ls (.long v :: rest))) : W p l e R s m args below meth c H locs cells slots Q (F0 m pc ls (.ref (g.2.1 k) :: rest)) := by
  subst hv
  obtain ⟨hx, hb, hml, hown, hts, hG, hr, hlk⟩ := E
  obtain ⟨fs, f1, f2, f3, f4⟩ := F σ
  exact va_getN (D := g.1) (ref := (T j).1) hx hb hts hin hown hG.1 h.1 k f1 hc j hj (va_Nw.use rfl (hG.2.1.1 _ hlink)) (fun _ q => q) f2 hdg kk
theorem x_getRN (E : EV p s m args meth c cc own Ts nL ret g) (h : HW g σ s H locs) {k ci j k2 N idx : Nat} {C : String} {T : u_T} (F : FR g k ci j k2) (hc : vwCl[ci]? = some (C, T, N)) (hin : ∀ w ∈ u_ws C T N, w ∈ Ts) (hj : j < N) (hlink : Cond.fieldLinkNest own idx (T j).1 (T j).2.1 (T j).2.2.1 "VoiceHeaps" ∈ nestF) (hdg : decode cc pc = .ok (.getfield idx, 3))
    (kk : W p l e R s m args below meth c H locs cells slots Q (F0 m (pc + 3) ls (.ref (g.2.1 k2) :: rest))) : W p l e R s m args below meth c H locs cells slots Q (F0 m pc ls (.ref (g.2.1 k) :: rest)) := by
  obtain ⟨hx, hb, hml, hown, hts, hG, hr, hlk⟩ := E
  obtain ⟨fs, f1, f2⟩ := F σ
  exact va_getN (D := g.1) (ref := (T j).1) hx hb hts hin hown hG.1 h.1 k f1 hc j hj (va_Nw.use rfl (hG.2.1.1 _ hlink)) (fun _ q => q) f2 hdg kk
theorem x_putI (E : EV p s m args meth c cc own Ts nL ret g) (h : HW g σ s H locs) {k ci j i N idx : Nat} {C : String} {T : u_T} {ty0 : Nat → FieldType} {ty : FieldType} {v : Int32} (F : FI g k ci j i) (hc : vwCl[ci]? = some (C, T, N)) (hin : ∀ w ∈ u_ws C T N, w ∈ Ts) (hty : ∀ k, k < N → parseFieldDescriptor (T k).2.2.1 = some (ty0 k)) (hnm : ∀ a, a < N → ∀ b, b < N → a ≠ b → (T a).2.1 ≠ (T b).2.1) (hj : j < N) (hlink : Cond.fieldLink own idx (T j).1 (T j).2.1 (T j).2.2.1 ∈ Ts) (hfin : (T j).2.2.2 = false) (hd : parseFieldDescriptor (T j).2.2.1 = some ty) (hn : narrow ty (.int v) = .int v) (hfit : fits ty (.int v) = true) (hdg : decode cc pc = .ok (.putfield idx, 3))
    (kk : ∀ (H1 : Heap) (locs1 : List Loc), HW g (sI σ i v) s H1 locs1 → W p l e R s m args below meth c H1 locs1 cells slots Q (F0 m (pc + 3) ls rest)) : W p l e R s m args below meth c H locs cells slots Q (F0 m pc ls (.int v :: .ref (g.2.1 k) :: rest)) := by
  obtain ⟨hx, hb, hml, hown, hts, hG, hr, hlk⟩ := E
  obtain ⟨fs, f1, f2, f3, f4⟩ := F σ
  refine va_put (D := g.1) (ref := (T j).1) hx hb hts hin ty0 hty hnm hown hG.1 h.1 (wW_D hG.2.2.1 σ) h.2 k f1 hc j hj (hts _ hlink) (fun _ q => q) hfin hd hn hfit f3 hdg (fun H1 locs1 hP _ hS => ?_)
  rw [f4 v] at hP
  exact kk H1 locs1 ⟨hP, hS⟩
theorem x_putL (E : EV p s m args meth c cc own Ts nL ret g) (h : HW g σ s H locs) {k ci j i N idx : Nat} {C : String} {T : u_T} {ty0 : Nat → FieldType} {ty : FieldType} {v : Int64} (F : FL g k ci j i) (hc : vwCl[ci]? = some (C, T, N)) (hin : ∀ w ∈ u_ws C T N, w ∈ Ts) (hty : ∀ k, k < N → parseFieldDescriptor (T k).2.2.1 = some (ty0 k)) (hnm : ∀ a, a < N → ∀ b, b < N → a ≠ b → (T a).2.1 ≠ (T b).2.1) (hj : j < N) (hlink : Cond.fieldLink own idx (T j).1 (T j).2.1 (T j).2.2.1 ∈ Ts) (hfin : (T j).2.2.2 = false) (hd : parseFieldDescriptor (T j).2.2.1 = some ty) (hn : narrow ty (.long v) = .long v) (hfit : fits ty (.long v) = true) (hdg : decode cc pc = .ok (.putfield idx, 3))
    (kk : ∀ (H1 : Heap) (locs1 : List Loc), HW g (sL σ i v) s H1 locs1 → W p l e R s m args below meth c H1 locs1 cells slots Q (F0 m (pc + 3) ls rest)) : W p l e R s m args below meth c H locs cells slots Q (F0 m pc ls (.long v :: .ref (g.2.1 k) :: rest)) := by
  obtain ⟨hx, hb, hml, hown, hts, hG, hr, hlk⟩ := E
  obtain ⟨fs, f1, f2, f3, f4⟩ := F σ
  refine va_put (D := g.1) (ref := (T j).1) hx hb hts hin ty0 hty hnm hown hG.1 h.1 (wW_D hG.2.2.1 σ) h.2 k f1 hc j hj (hts _ hlink) (fun _ q => q) hfin hd hn hfit f3 hdg (fun H1 locs1 hP _ hS => ?_)
  rw [f4 v] at hP
  exact kk H1 locs1 ⟨hP, hS⟩
theorem x_putIN (E : EV p s m args meth c cc own Ts nL ret g) (h : HW g σ s H locs) {k ci j i N idx : Nat} {C : String} {T : u_T} {ty0 : Nat → FieldType} {ty : FieldType} {v : Int32} (F : FI g k ci j i) (hc : vwCl[ci]? = some (C, T, N)) (hin : ∀ w ∈ u_ws C T N, w ∈ Ts) (hty : ∀ k, k < N → parseFieldDescriptor (T k).2.2.1 = some (ty0 k)) (hnm : ∀ a, a < N → ∀ b, b < N → a ≠ b → (T a).2.1 ≠ (T b).2.1) (hj : j < N) (hlink : Cond.fieldLinkNest own idx (T j).1 (T j).2.1 (T j).2.2.1 "VoiceHeaps" ∈ nestF) (hfin : (T j).2.2.2 = false) (hd : parseFieldDescriptor (T j).2.2.1 = some ty) (hn : narrow ty (.int v) = .int v) (hfit : fits ty (.int v) = true) (hdg : decode cc pc = .ok (.putfield idx, 3))
    (kk : ∀ (H1 : Heap) (locs1 : List Loc), HW g (sI σ i v) s H1 locs1 → W p l e R s m args below meth c H1 locs1 cells slots Q (F0 m (pc + 3) ls rest)) : W p l e R s m args below meth c H locs cells slots Q (F0 m pc ls (.int v :: .ref (g.2.1 k) :: rest)) := by
  obtain ⟨hx, hb, hml, hown, hts, hG, hr, hlk⟩ := E
  obtain ⟨fs, f1, f2, f3, f4⟩ := F σ
  refine va_putN (D := g.1) (ref := (T j).1) hx hb hts hin ty0 hty hnm hown hG.1 h.1 (wW_D hG.2.2.1 σ) h.2 k f1 hc j hj (va_Nw.use rfl (hG.2.1.1 _ hlink)) (fun _ q => q) hfin hd hn hfit f3 hdg (fun H1 locs1 hP _ hS => ?_)
  rw [f4 v] at hP
  exact kk H1 locs1 ⟨hP, hS⟩
theorem x_ldI (E : EV p s m args meth c cc own Ts nL ret g) (h : HW g σ s H locs) {k n a : Nat} (A : IA g k n a .int) {i : Int32} (hin : vp_in i n) {v : Int32} (hv : σ.2.2 a i.toNatClampNeg = v) (hdg : decode cc pc = .ok (.iaload, 1))
    (kk : W p l e R s m args below meth c H locs cells slots Q (F0 m (pc + 1) ls (.int v :: rest))) : W p l e R s m args below meth c H locs cells slots Q (F0 m pc ls (.int i :: .ref (g.2.1 k) :: rest)) := by
  subst hv
  obtain ⟨hx, hb, hml, hown, hts, hG, hr, hlk⟩ := E
  exact va_iald (D := g.1) hx hb hG.1 h.1 k a (A.1 σ).1 A.2 hin hdg kk
theorem x_ldZ (E : EV p s m args meth c cc own Ts nL ret g) (h : HW g σ s H locs) {k n a : Nat} (A : IA g k n a .boolean) {i : Int32} (hin : vp_in i n) {v : Int32} (hv : σ.2.2 a i.toNatClampNeg = v) (hdg : decode cc pc = .ok (.baload, 1))
    (kk : W p l e R s m args below meth c H locs cells slots Q (F0 m (pc + 1) ls (.int v :: rest))) : W p l e R s m args below meth c H locs cells slots Q (F0 m pc ls (.int i :: .ref (g.2.1 k) :: rest)) := by
  subst hv
  obtain ⟨hx, hb, hml, hown, hts, hG, hr, hlk⟩ := E
  exact va_zald (D := g.1) hx hb hG.1 h.1 k a (A.1 σ).1 A.2 hin hdg kk
theorem x_ldB (E : EV p s m args meth c cc own Ts nL ret g) (h : HW g σ s H locs) {k n a : Nat} (A : IA g k n a .byte) {i : Int32} (hin : vp_in i n) {v : Int32} (hv : σ.2.2 a i.toNatClampNeg = v) (hdg : decode cc pc = .ok (.baload, 1))
    (kk : W p l e R s m args below meth c H locs cells slots Q (F0 m (pc + 1) ls (.int v :: rest))) : W p l e R s m args below meth c H locs cells slots Q (F0 m pc ls (.int i :: .ref (g.2.1 k) :: rest)) := by
  subst hv
  obtain ⟨hx, hb, hml, hown, hts, hG, hr, hlk⟩ := E
  exact va_bald (D := g.1) hx hb hG.1 h.1 k a (A.1 σ).1 A.2 hin hdg kk
theorem x_stI (E : EV p s m args meth c cc own Ts nL ret g) (h : HW g σ s H locs) {k n a : Nat} (A : IA g k n a .int) {i x : Int32} (hin : vp_in i n) {j : Nat} (hj : i.toNatClampNeg = j) {f : Nat → Int32} (hf : upd (σ.2.2 a) j x = f) (hdg : decode cc pc = .ok (.iastore, 1))
    (kk : ∀ (H1 : Heap) (locs1 : List Loc), HW g (sA σ a f) s H1 locs1 → W p l e R s m args below meth c H1 locs1 cells slots Q (F0 m (pc + 1) ls rest)) : W p l e R s m args below meth c H locs cells slots Q (F0 m pc ls (.int x :: .int i :: .ref (g.2.1 k) :: rest)) := by
  subst hj
  subst hf
  obtain ⟨hx, hb, hml, hown, hts, hG, hr, hlk⟩ := E
  refine va_iast (D := g.1) hx hb hG.1 h.1 (wW_D hG.2.2.1 σ) h.2 k a (A.1 σ).1 A.2 hin hdg (fun H1 locs1 hP _ hS => ?_)
  rw [(A.1 σ).2] at hP
  exact kk H1 locs1 ⟨hP, hS⟩
theorem x_stZ (E : EV p s m args meth c cc own Ts nL ret g) (h : HW g σ s H locs) {k n a : Nat} (A : IA g k n a .boolean) {i x : Int32} (hin : vp_in i n) {j : Nat} (hj : i.toNatClampNeg = j) {f : Nat → Int32} (hf : upd (σ.2.2 a) j (vp_nar .boolean x) = f) (hdg : decode cc pc = .ok (.bastore, 1))
    (kk : ∀ (H1 : Heap) (locs1 : List Loc), HW g (sA σ a f) s H1 locs1 → W p l e R s m args below meth c H1 locs1 cells slots Q (F0 m (pc + 1) ls rest)) : W p l e R s m args below meth c H locs cells slots Q (F0 m pc ls (.int x :: .int i :: .ref (g.2.1 k) :: rest)) := by
  subst hj
  subst hf
  obtain ⟨hx, hb, hml, hown, hts, hG, hr, hlk⟩ := E
  refine va_zast (D := g.1) hx hb hG.1 h.1 (wW_D hG.2.2.1 σ) h.2 k a (A.1 σ).1 A.2 hin hdg (fun H1 locs1 hP _ hS => ?_)
  rw [(A.1 σ).2] at hP
  exact kk H1 locs1 ⟨hP, hS⟩
theorem x_stB (E : EV p s m args meth c cc own Ts nL ret g) (h : HW g σ s H locs) {k n a : Nat} (A : IA g k n a .byte) {i x : Int32} (hin : vp_in i n) {j : Nat} (hj : i.toNatClampNeg = j) {f : Nat → Int32} (hf : upd (σ.2.2 a) j (vp_nar .byte x) = f) (hdg : decode cc pc = .ok (.bastore, 1))
    (kk : ∀ (H1 : Heap) (locs1 : List Loc), HW g (sA σ a f) s H1 locs1 → W p l e R s m args below meth c H1 locs1 cells slots Q (F0 m (pc + 1) ls rest)) : W p l e R s m args below meth c H locs cells slots Q (F0 m pc ls (.int x :: .int i :: .ref (g.2.1 k) :: rest)) := by
  subst hj
  subst hf
  obtain ⟨hx, hb, hml, hown, hts, hG, hr, hlk⟩ := E
  refine va_bast (D := g.1) hx hb hG.1 h.1 (wW_D hG.2.2.1 σ) h.2 k a (A.1 σ).1 A.2 hin hdg (fun H1 locs1 hP _ hS => ?_)
  rw [(A.1 σ).2] at hP
  exact kk H1 locs1 ⟨hP, hS⟩
theorem x_len (E : EV p s m args meth c cc own Ts nL ret g) (h : HW g σ s H locs) {k n a : Nat} {ty : FieldType} (A : IA g k n a ty) {v : Int32} (hv : Int32.ofNat n = v) (hdg : decode cc pc = .ok (.arraylength, 1))
    (kk : W p l e R s m args below meth c H locs cells slots Q (F0 m (pc + 1) ls (.int v :: rest))) : W p l e R s m args below meth c H locs cells slots Q (F0 m pc ls (.ref (g.2.1 k) :: rest)) := by
  obtain ⟨hx, hb, hml, hown, hts, hG, hr, hlk⟩ := E
  exact va_alen (D := g.1) hx hb hG.1 h.1 k a (A.1 σ).1 A.2 hv hdg kk
theorem x_row (E : EV p s m args meth c cc own Ts nL ret g) (h : HW g σ s H locs) {k n a k0 : Nat} (A : FG g k n a k0) {i : Int32} (hin : vp_in i n) {kr : Nat} (hk : k0 + i.toNatClampNeg = kr) (hdg : decode cc pc = .ok (.aaload, 1))
    (kk : W p l e R s m args below meth c H locs cells slots Q (F0 m (pc + 1) ls (.ref (g.2.1 kr) :: rest))) : W p l e R s m args below meth c H locs cells slots Q (F0 m pc ls (.int i :: .ref (g.2.1 k) :: rest)) := by
  subst hk
  obtain ⟨hx, hb, hml, hown, hts, hG, hr, hlk⟩ := E
  have hlt : i.toNatClampNeg < n := Nat.not_le.mp fun q => hin (Or.inr q)
  exact W.aald (v := .ref (g.2.1 (k0 + i.toNatClampNeg))) (ty := .array .int) hx hb (h.1 k _ (A.1 σ)) ((hG.1.2 a _ A.2).1 n (fun j => va_rf (wG g k0 n j))) rfl (fun q => by cases q) (by show ¬ (i < 0 ∨ (arrV _ _ _).slots.size ≤ _); rw [arrV_size]; exact hin) (by show (arrV _ _ _).slots[_]? = _; rw [arrV_read _ _ hlt]; simp [wG, hlt, va_rf]) rfl rfl hdg kk
theorem x_iret {post : Int32 → ST → Prop} (E : EV p s m args meth c cc own Ts nL (some .int) g) (h : HW g σ s H locs) {v : Int32} (hq : post v σ) (hdg : decode cc pc = .ok (.ireturn, 1)) : W p l e R s m args below meth c H locs cells slots (MQ below (XQi g post) args s cells slots (Aw g)) (F0 m pc ls [.int v]) := by
  obtain ⟨hx, hb, hml, hown, hts, hG, hr, hlk⟩ := E
  exact W.iret (v := v) hx hb hr (fun t ht hW => ⟨⟨v, σ, rfl, hq, by show va_P _ _ _ t.heap; rw [ht]; exact h.1⟩, h.2.F ht⟩) h.2.2.2 hdg hlk
theorem x_zret {post : Int32 → ST → Prop} {ty : FieldType} (E : EV p s m args meth c cc own Ts nL (some ty) g) (h : HW g σ s H locs) {v : Int32} (hn : narrow ty (.int v) = .int v) (hq : post v σ) (hdg : decode cc pc = .ok (.ireturn, 1)) : W p l e R s m args below meth c H locs cells slots (MQ below (XQi g post) args s cells slots (Aw g)) (F0 m pc ls [.int v]) := by
  obtain ⟨hx, hb, hml, hown, hts, hG, hr, hlk⟩ := E
  exact W.zret (v := v) hx hb hr hn (fun t ht hW => ⟨⟨v, σ, rfl, hq, by show va_P _ _ _ t.heap; rw [ht]; exact h.1⟩, h.2.F ht⟩) h.2.2.2 hdg hlk
theorem x_lret {post : Int64 → ST → Prop} (E : EV p s m args meth c cc own Ts nL (some .long) g) (h : HW g σ s H locs) {v : Int64} (hq : post v σ) (hdg : decode cc pc = .ok (.lreturn, 1)) : W p l e R s m args below meth c H locs cells slots (MQ below (XQl g post) args s cells slots (Aw g)) (F0 m pc ls [.long v]) := by
  obtain ⟨hx, hb, hml, hown, hts, hG, hr, hlk⟩ := E
  exact W.lret (v := v) hx hb hr (fun t ht hW => ⟨⟨v, σ, rfl, hq, by show va_P _ _ _ t.heap; rw [ht]; exact h.1⟩, h.2.F ht⟩) h.2.2.2 hdg hlk
theorem x_vret {post : ST → Prop} (E : EV p s m args meth c cc own Ts nL none g) (h : HW g σ s H locs) (hq : post σ) (hdg : decode cc pc = .ok (.return_, 1)) : W p l e R s m args below meth c H locs cells slots (MQ below (XQv g post) args s cells slots (Aw g)) (F0 m pc ls []) := by
  obtain ⟨hx, hb, hml, hown, hts, hG, hr, hlk⟩ := E
  exact W.vret hx hb hr (fun t ht hW => ⟨⟨σ, rfl, hq, by show va_P _ _ _ t.heap; rw [ht]; exact h.1⟩, h.2.F ht⟩) h.2.2.2 hdg hlk
/-- what a callee asks of its start -/
theorem x_pre (E : EV p s m args meth c cc own Ts nL ret g) (h : HW g σ s H locs) (av : List Value) : PreS s H (XPre g av σ) av := ⟨XPre.blind, fun U hU hW => ⟨rfl, by rw [hU]; exact h.1, E.2.2.2.2.2.1.go h.2 hU hW⟩⟩
theorem x_preV (E : EV p s m args meth c cc own Ts nL ret g) (h : HW g σ s H locs) {k ci N : Nat} {C : String} {T : u_T} (O : OC g k ci) (hc : vwCl[ci]? = some (C, T, N)) (As : List Value) : PreV s H C (g.2.1 k) (XPre g (.ref (g.2.1 k) :: As) σ) As := by
  obtain ⟨fs, f1⟩ := O σ
  exact ⟨XPre.blind, va_recv (q := (C, T, N)) E.2.2.2.2.2.1.1 h.1 hc f1, fun U hU hW => ⟨rfl, by rw [hU]; exact h.1, E.2.2.2.2.2.1.go h.2 hU hW⟩⟩
section CALLS
variable {y : MethodName} {ws ws' : List Cond} {rm : Room} {σ1 : ST} {As st0 : List Value} {bytes : ByteArray} {maxL idx n : Nat} {rt : Option FieldType}
theorem x_vi {post : Int32 → ST → Prop} {k ci N : Nat} {C : String} {T : u_T} (E : EV p s m args meth c cc own Ts nL ret g) (h : HW g σ s H locs) (hM : XM l g y ws rm (.ref (g.2.1 k) :: As) σ (XQi g post)) (O : OC g k ci) (hc : vwCl[ci]? = some (C, T, N)) (hG : GoodIn Ts (wsV own idx C y ws)) (hw : ws = Cond.code y bytes maxL rt :: ws') (hr0 : rm.cells = 0 ∧ rm.slots = 0) {na : Nat} (hna : As.length = na) (hd : y.cls = C ∧ y.cls ≠ "java/lang/invoke/MethodHandle" ∧ y.cls ≠ "java/lang/invoke/VarHandle" ∧ (parseMethodDescriptor y.desc).map (fun d => d.parameters.length) = some na) (hR : rm.frames + 1 ≤ R.frames ∧ 8 + (maxL + 11) + rm.locals ≤ R.locals) (hls : ls.size = nL) (hst : st0 = As.reverse ++ .ref (g.2.1 k) :: rest) (hW : (rest.map fun v => v.category).sum ≤ 8) (hdg : decode cc pc = .ok (.invokevirtual idx, 3)) (hroom : cells ≤ R.cells ∧ slots ≤ R.slots)
    (kk : ∀ (r : Int32) (σ' : ST) (H1 : Heap) (locs1 : List Loc), post r σ' → HW g σ' s H1 locs1 → W p l e R s m args below meth c H1 locs1 cells slots Q (F0 m (pc + 3) ls (.int r :: rest))) : W p l e R s m args below meth c H locs cells slots Q (F0 m pc ls st0) := by
  subst hst
  subst hna
  have hts := E.2.2.2.2.1
  refine va_calli (va_runV (As := As) (rest := rest) ⟨E.1, E.2.1, E.2.2.1, E.2.2.2.1, hts⟩ hM (cwV As.length hts hG hw hr0.1 hr0.2 hd hR) (x_preV E h O hc As) rfl rfl hls rfl (lv_room hW) hdg hroom) h.2 (fun _ _ q => q) (fun _ q => q) (fun r u t H1 locs1 ht hvm hpost hB hz hk hS => ?_)
  rw [XB, ht] at hB
  exact kk r u H1 locs1 hpost ⟨hB, hS⟩
theorem x_vl {post : Int64 → ST → Prop} {k ci N : Nat} {C : String} {T : u_T} (E : EV p s m args meth c cc own Ts nL ret g) (h : HW g σ s H locs) (hM : XM l g y ws rm (.ref (g.2.1 k) :: As) σ (XQl g post)) (O : OC g k ci) (hc : vwCl[ci]? = some (C, T, N)) (hG : GoodIn Ts (wsV own idx C y ws)) (hw : ws = Cond.code y bytes maxL rt :: ws') (hr0 : rm.cells = 0 ∧ rm.slots = 0) {na : Nat} (hna : As.length = na) (hd : y.cls = C ∧ y.cls ≠ "java/lang/invoke/MethodHandle" ∧ y.cls ≠ "java/lang/invoke/VarHandle" ∧ (parseMethodDescriptor y.desc).map (fun d => d.parameters.length) = some na) (hR : rm.frames + 1 ≤ R.frames ∧ 8 + (maxL + 11) + rm.locals ≤ R.locals) (hls : ls.size = nL) (hst : st0 = As.reverse ++ .ref (g.2.1 k) :: rest) (hW : (rest.map fun v => v.category).sum ≤ 8) (hdg : decode cc pc = .ok (.invokevirtual idx, 3)) (hroom : cells ≤ R.cells ∧ slots ≤ R.slots)
    (kk : ∀ (r : Int64) (σ' : ST) (H1 : Heap) (locs1 : List Loc), post r σ' → HW g σ' s H1 locs1 → W p l e R s m args below meth c H1 locs1 cells slots Q (F0 m (pc + 3) ls (.long r :: rest))) : W p l e R s m args below meth c H locs cells slots Q (F0 m pc ls st0) := by
  subst hst
  subst hna
  have hts := E.2.2.2.2.1
  refine va_calll (va_runV (As := As) (rest := rest) ⟨E.1, E.2.1, E.2.2.1, E.2.2.2.1, hts⟩ hM (cwV As.length hts hG hw hr0.1 hr0.2 hd hR) (x_preV E h O hc As) rfl rfl hls rfl (lv_room hW) hdg hroom) h.2 (fun _ _ q => q) (fun _ q => q) (fun r u t H1 locs1 ht hvm hpost hB hz hk hS => ?_)
  rw [XB, ht] at hB
  exact kk r u H1 locs1 hpost ⟨hB, hS⟩
theorem x_vv {post : ST → Prop} {k ci N : Nat} {C : String} {T : u_T} (E : EV p s m args meth c cc own Ts nL ret g) (h : HW g σ s H locs) (hM : XM l g y ws rm (.ref (g.2.1 k) :: As) σ (XQv g post)) (O : OC g k ci) (hc : vwCl[ci]? = some (C, T, N)) (hG : GoodIn Ts (wsV own idx C y ws)) (hw : ws = Cond.code y bytes maxL rt :: ws') (hr0 : rm.cells = 0 ∧ rm.slots = 0) {na : Nat} (hna : As.length = na) (hd : y.cls = C ∧ y.cls ≠ "java/lang/invoke/MethodHandle" ∧ y.cls ≠ "java/lang/invoke/VarHandle" ∧ (parseMethodDescriptor y.desc).map (fun d => d.parameters.length) = some na) (hR : rm.frames + 1 ≤ R.frames ∧ 8 + (maxL + 11) + rm.locals ≤ R.locals) (hls : ls.size = nL) (hst : st0 = As.reverse ++ .ref (g.2.1 k) :: rest) (hW : (rest.map fun v => v.category).sum ≤ 8) (hdg : decode cc pc = .ok (.invokevirtual idx, 3)) (hroom : cells ≤ R.cells ∧ slots ≤ R.slots)
    (kk : ∀ (σ' : ST) (H1 : Heap) (locs1 : List Loc), post σ' → HW g σ' s H1 locs1 → W p l e R s m args below meth c H1 locs1 cells slots Q (F0 m (pc + 3) ls rest)) : W p l e R s m args below meth c H locs cells slots Q (F0 m pc ls st0) := by
  subst hst
  subst hna
  have hts := E.2.2.2.2.1
  refine va_callv (va_runV (As := As) (rest := rest) ⟨E.1, E.2.1, E.2.2.1, E.2.2.2.1, hts⟩ hM (cwV As.length hts hG hw hr0.1 hr0.2 hd hR) (x_preV E h O hc As) rfl rfl hls rfl (lv_room hW) hdg hroom) h.2 (fun _ _ q => q) (fun _ q => q) (fun u t H1 locs1 ht hvm hpost hB hz hk hS => ?_)
  rw [XB, ht] at hB
  exact kk u H1 locs1 hpost ⟨hB, hS⟩
theorem x_si {post : Int32 → ST → Prop} (E : EV p s m args meth c cc own Ts nL ret g) (h : HW g σ s H locs) (hM : XM l g y ws rm As σ (XQi g post)) (hG : GoodIn Ts (va_wsS own idx y ws)) (hw : ws = Cond.code y bytes maxL rt :: ws') (hr0 : rm.cells = 0 ∧ rm.slots = 0) {na : Nat} (hna : As.length = na) (hd : y.cls ≠ "java/lang/invoke/MethodHandle" ∧ y.cls ≠ "java/lang/invoke/VarHandle" ∧ (parseMethodDescriptor y.desc).map (fun d => d.parameters.length) = some na) (hR : rm.frames + 1 ≤ R.frames ∧ 8 + (maxL + 11) + rm.locals ≤ R.locals) (hls : ls.size = nL) (hst : st0 = As.reverse ++ rest) (hW : (rest.map fun v => v.category).sum ≤ 8) (hdg : decode cc pc = .ok (.invokestatic idx, 3)) (hroom : cells ≤ R.cells ∧ slots ≤ R.slots)
    (kk : ∀ (r : Int32) (σ' : ST) (H1 : Heap) (locs1 : List Loc), post r σ' → HW g σ' s H1 locs1 → W p l e R s m args below meth c H1 locs1 cells slots Q (F0 m (pc + 3) ls (.int r :: rest))) : W p l e R s m args below meth c H locs cells slots Q (F0 m pc ls st0) := by
  subst hst
  subst hna
  have hts := E.2.2.2.2.1
  refine va_calli (va_runS (As := As) (rest := rest) ⟨E.1, E.2.1, E.2.2.1, E.2.2.2.1, hts⟩ hM (va_cwS As.length hts hG hw hr0.1 hr0.2 hd hR) (x_pre E h As) rfl rfl hls rfl (lv_room hW) hdg hroom) h.2 (fun _ _ q => q) (fun _ q => q) (fun r u t H1 locs1 ht hvm hpost hB hz hk hS => ?_)
  rw [XB, ht] at hB
  exact kk r u H1 locs1 hpost ⟨hB, hS⟩
theorem x_sl {post : Int64 → ST → Prop} (E : EV p s m args meth c cc own Ts nL ret g) (h : HW g σ s H locs) (hM : XM l g y ws rm As σ (XQl g post)) (hG : GoodIn Ts (va_wsS own idx y ws)) (hw : ws = Cond.code y bytes maxL rt :: ws') (hr0 : rm.cells = 0 ∧ rm.slots = 0) {na : Nat} (hna : As.length = na) (hd : y.cls ≠ "java/lang/invoke/MethodHandle" ∧ y.cls ≠ "java/lang/invoke/VarHandle" ∧ (parseMethodDescriptor y.desc).map (fun d => d.parameters.length) = some na) (hR : rm.frames + 1 ≤ R.frames ∧ 8 + (maxL + 11) + rm.locals ≤ R.locals) (hls : ls.size = nL) (hst : st0 = As.reverse ++ rest) (hW : (rest.map fun v => v.category).sum ≤ 8) (hdg : decode cc pc = .ok (.invokestatic idx, 3)) (hroom : cells ≤ R.cells ∧ slots ≤ R.slots)
    (kk : ∀ (r : Int64) (σ' : ST) (H1 : Heap) (locs1 : List Loc), post r σ' → HW g σ' s H1 locs1 → W p l e R s m args below meth c H1 locs1 cells slots Q (F0 m (pc + 3) ls (.long r :: rest))) : W p l e R s m args below meth c H locs cells slots Q (F0 m pc ls st0) := by
  subst hst
  subst hna
  have hts := E.2.2.2.2.1
  refine va_calll (va_runS (As := As) (rest := rest) ⟨E.1, E.2.1, E.2.2.1, E.2.2.2.1, hts⟩ hM (va_cwS As.length hts hG hw hr0.1 hr0.2 hd hR) (x_pre E h As) rfl rfl hls rfl (lv_room hW) hdg hroom) h.2 (fun _ _ q => q) (fun _ q => q) (fun r u t H1 locs1 ht hvm hpost hB hz hk hS => ?_)
  rw [XB, ht] at hB
  exact kk r u H1 locs1 hpost ⟨hB, hS⟩
theorem x_sv {post : ST → Prop} (E : EV p s m args meth c cc own Ts nL ret g) (h : HW g σ s H locs) (hM : XM l g y ws rm As σ (XQv g post)) (hG : GoodIn Ts (va_wsS own idx y ws)) (hw : ws = Cond.code y bytes maxL rt :: ws') (hr0 : rm.cells = 0 ∧ rm.slots = 0) {na : Nat} (hna : As.length = na) (hd : y.cls ≠ "java/lang/invoke/MethodHandle" ∧ y.cls ≠ "java/lang/invoke/VarHandle" ∧ (parseMethodDescriptor y.desc).map (fun d => d.parameters.length) = some na) (hR : rm.frames + 1 ≤ R.frames ∧ 8 + (maxL + 11) + rm.locals ≤ R.locals) (hls : ls.size = nL) (hst : st0 = As.reverse ++ rest) (hW : (rest.map fun v => v.category).sum ≤ 8) (hdg : decode cc pc = .ok (.invokestatic idx, 3)) (hroom : cells ≤ R.cells ∧ slots ≤ R.slots)
    (kk : ∀ (σ' : ST) (H1 : Heap) (locs1 : List Loc), post σ' → HW g σ' s H1 locs1 → W p l e R s m args below meth c H1 locs1 cells slots Q (F0 m (pc + 3) ls rest)) : W p l e R s m args below meth c H locs cells slots Q (F0 m pc ls st0) := by
  subst hst
  subst hna
  have hts := E.2.2.2.2.1
  refine va_callv (va_runS (As := As) (rest := rest) ⟨E.1, E.2.1, E.2.2.1, E.2.2.2.1, hts⟩ hM (va_cwS As.length hts hG hw hr0.1 hr0.2 hd hR) (x_pre E h As) rfl rfl hls rfl (lv_room hW) hdg hroom) h.2 (fun _ _ q => q) (fun _ q => q) (fun u t H1 locs1 ht hvm hpost hB hz hk hS => ?_)
  rw [XB, ht] at hB
  exact kk u H1 locs1 hpost ⟨hB, hS⟩
theorem x_siN {post : Int32 → ST → Prop} {host : String} (E : EV p s m args meth c cc own Ts nL ret g) (h : HW g σ s H locs) (hM : XM l g y ws rm As σ (XQi g post)) (hG : GoodIn Ts ws) (hlink : Cond.methodLinkNest own idx y host ∈ nestM) (hst2 : Cond.static y ∈ Ts) (hini : Cond.initialized y.cls ∈ Ts) (hw : ws = Cond.code y bytes maxL rt :: ws') (hr0 : rm.cells = 0 ∧ rm.slots = 0) {na : Nat} (hna : As.length = na) (hd : y.cls ≠ "java/lang/invoke/MethodHandle" ∧ y.cls ≠ "java/lang/invoke/VarHandle" ∧ (parseMethodDescriptor y.desc).map (fun d => d.parameters.length) = some na) (hR : rm.frames + 1 ≤ R.frames ∧ 8 + (maxL + 11) + rm.locals ≤ R.locals) (hls : ls.size = nL) (hst : st0 = As.reverse ++ rest) (hW : (rest.map fun v => v.category).sum ≤ 8) (hdg : decode cc pc = .ok (.invokestatic idx, 3)) (hroom : cells ≤ R.cells ∧ slots ≤ R.slots)
    (kk : ∀ (r : Int32) (σ' : ST) (H1 : Heap) (locs1 : List Loc), post r σ' → HW g σ' s H1 locs1 → W p l e R s m args below meth c H1 locs1 cells slots Q (F0 m (pc + 3) ls (.int r :: rest))) : W p l e R s m args below meth c H locs cells slots Q (F0 m pc ls st0) := by
  subst hst
  subst hna
  have hts := E.2.2.2.2.1
  refine va_calli (va_runSN (As := As) (rest := rest) ⟨E.1, E.2.1, E.2.2.1, E.2.2.2.1, hts⟩ hM ⟨va_cnB As.length hts hG hw hr0.1 hr0.2 (E.2.2.2.2.2.1.2.1.2 _ hlink) (hts _ hini) hd hR, hts _ hst2, trivial⟩ (x_pre E h As) rfl rfl hls rfl (lv_room hW) hdg hroom) h.2 (fun _ _ q => q) (fun _ q => q) (fun r u t H1 locs1 ht hvm hpost hB hz hk hS => ?_)
  rw [XB, ht] at hB
  exact kk r u H1 locs1 hpost ⟨hB, hS⟩
theorem x_max (E : EV p s m args meth c cc own Ts nL ret g) (hls : ls.size = nL) (hlink : Cond.methodLink own idx Lib.Math.max.name ∈ Ts) (hstat : Cond.static Lib.Math.max.name ∈ Ts) (hini : Cond.initialized "java/lang/Math" ∈ Ts) (hcode : Cond.code Lib.Math.max.name Lib.Math.max.code 2 (some .int) ∈ Ts) (hfr : 1 ≤ R.frames ∧ (rest.map fun v => v.category).sum + 13 ≤ R.locals) (hroom : cells ≤ R.cells ∧ slots ≤ R.slots) {x z : Int32} (hdg : decode cc pc = .ok (.invokestatic idx, 3))
    (kk : W p l e R s m args below meth c H locs cells slots Q (F0 m (pc + 3) ls (.int (if x < z then z else x) :: rest))) : W p l e R s m args below meth c H locs cells slots Q (F0 m pc ls (.int z :: .int x :: rest)) := by
  have hts := E.2.2.2.2.1
  exact va_mmax E.1 E.2.1 (E.2.2.1.trans hls.symm) E.2.2.2.1 (hts _ hlink) (hts _ hstat) (hts _ hini) (hts _ hcode) hfr.1 hfr.2 hroom.1 hroom.2 hdg kk
theorem x_min (E : EV p s m args meth c cc own Ts nL ret g) (hls : ls.size = nL) (hlink : Cond.methodLink own idx Lib.Math.min.name ∈ Ts) (hstat : Cond.static Lib.Math.min.name ∈ Ts) (hini : Cond.initialized "java/lang/Math" ∈ Ts) (hcode : Cond.code Lib.Math.min.name Lib.Math.min.code 2 (some .int) ∈ Ts) (hfr : 1 ≤ R.frames ∧ (rest.map fun v => v.category).sum + 13 ≤ R.locals) (hroom : cells ≤ R.cells ∧ slots ≤ R.slots) {x z : Int32} (hdg : decode cc pc = .ok (.invokestatic idx, 3))
    (kk : W p l e R s m args below meth c H locs cells slots Q (F0 m (pc + 3) ls (.int (if z < x then z else x) :: rest))) : W p l e R s m args below meth c H locs cells slots Q (F0 m pc ls (.int z :: .int x :: rest)) := by
  have hts := E.2.2.2.2.1
  exact va_mmin E.1 E.2.1 (E.2.2.1.trans hls.symm) E.2.2.2.1 (hts _ hlink) (hts _ hstat) (hts _ hini) (hts _ hcode) hfr.1 hfr.2 hroom.1 hroom.2 hdg kk
theorem x_abs (E : EV p s m args meth c cc own Ts nL ret g) (hls : ls.size = nL) (hlink : Cond.methodLink own idx Lib.Math.abs.name ∈ Ts) (hstat : Cond.static Lib.Math.abs.name ∈ Ts) (hini : Cond.initialized "java/lang/Math" ∈ Ts) (hcode : Cond.code Lib.Math.abs.name Lib.Math.abs.code 1 (some .int) ∈ Ts) (hfr : 1 ≤ R.frames ∧ (rest.map fun v => v.category).sum + 13 ≤ R.locals) (hroom : cells ≤ R.cells ∧ slots ≤ R.slots) {x : Int32} (hdg : decode cc pc = .ok (.invokestatic idx, 3))
    (kk : W p l e R s m args below meth c H locs cells slots Q (F0 m (pc + 3) ls (.int (if 0 ≤ x then x else 0 - x) :: rest))) : W p l e R s m args below meth c H locs cells slots Q (F0 m pc ls (.int x :: rest)) := by
  have hts := E.2.2.2.2.1
  exact va_mabs E.1 E.2.1 (E.2.2.1.trans hls.symm) E.2.2.2.1 (hts _ hlink) (hts _ hstat) (hts _ hini) (hts _ hcode) hfr.1 hfr.2 hroom.1 hroom.2 hdg kk
end CALLS
/-- the number on top is another name -/
theorem x_top {v v2 : Value} (h : v = v2) (kk : W p l e R s m args below meth c H locs cells slots Q (F0 m pc ls (v2 :: rest))) : W p l e R s m args below meth c H locs cells slots Q (F0 m pc ls (v :: rest)) := by
  subst h
  exact kk
theorem x_topI {v v2 : Int32} (h : v = v2) (kk : W p l e R s m args below meth c H locs cells slots Q (F0 m pc ls (.int v2 :: rest))) : W p l e R s m args below meth c H locs cells slots Q (F0 m pc ls (.int v :: rest)) := by
  subst h
  exact kk
theorem x_gets0 (E : EV p s m args meth c cc own Ts nL ret g) (h : HW g σ s H locs) {idx : Nat} (hlink : Cond.fieldLink own idx "VoiceHeaps$RuleText" "AT_FIRST" "[I" ∈ Ts) (hdg : decode cc pc = .ok (.getstatic idx, 3)) (kk : W p l e R s m args below meth c H locs cells slots Q (F0 m (pc + 3) ls (.ref (g.2.1 200) :: rest))) : W p l e R s m args below meth c H locs cells slots Q (F0 m pc ls rest) := by
  obtain ⟨hx, hb, hml, hown, hts, hG, hr, hlk⟩ := E
  exact va_gets hx hb hG.2.2.2.1 h.2 hown (hts _ hlink) (fun _ q => q) hdg kk
theorem x_gets1 (E : EV p s m args meth c cc own Ts nL ret g) (h : HW g σ s H locs) {idx : Nat} (hlink : Cond.fieldLink own idx "VoiceHeaps$RuleText" "MOST" "[I" ∈ Ts) (hdg : decode cc pc = .ok (.getstatic idx, 3)) (kk : W p l e R s m args below meth c H locs cells slots Q (F0 m (pc + 3) ls (.ref (g.2.1 201) :: rest))) : W p l e R s m args below meth c H locs cells slots Q (F0 m pc ls rest) := by
  obtain ⟨hx, hb, hml, hown, hts, hG, hr, hlk⟩ := E
  exact va_gets hx hb hG.2.2.2.2.2.1 h.2 hown (hts _ hlink) (fun _ q => q) hdg kk
theorem x_tab0 (E : EV p s m args meth c cc own Ts nL ret g) (h : HW g σ s H locs) {i v : Int32} (hin : vp_in i 6) (hv : atFirst i.toNatClampNeg = .int v) (hdg : decode cc pc = .ok (.iaload, 1)) (kk : W p l e R s m args below meth c H locs cells slots Q (F0 m (pc + 1) ls (.int v :: rest))) : W p l e R s m args below meth c H locs cells slots Q (F0 m pc ls (.int i :: .ref (g.2.1 200) :: rest)) := by
  obtain ⟨hx, hb, hml, hown, hts, hG, hr, hlk⟩ := E
  exact va_ti hx hb hG.2.2.2.2.1 h.2 hin hv hdg kk
theorem x_tab1 (E : EV p s m args meth c cc own Ts nL ret g) (h : HW g σ s H locs) {i v : Int32} (hin : vp_in i 6) (hv : atMost i.toNatClampNeg = .int v) (hdg : decode cc pc = .ok (.iaload, 1)) (kk : W p l e R s m args below meth c H locs cells slots Q (F0 m (pc + 1) ls (.int v :: rest))) : W p l e R s m args below meth c H locs cells slots Q (F0 m pc ls (.int i :: .ref (g.2.1 201) :: rest)) := by
  obtain ⟨hx, hb, hml, hown, hts, hG, hr, hlk⟩ := E
  exact va_ti hx hb hG.2.2.2.2.2.2 h.2 hin hv hdg kk
theorem x_aret {post : Nat → ST → Prop} {rt : FieldType} (E : EV p s m args meth c cc own Ts nL (some rt) g) (h : HW g σ s H locs) {k : Nat} (hrt : (∃ n, rt = .object n) ∨ ∃ t, rt = .array t) (hq : post k σ) (hdg : decode cc pc = .ok (.areturn, 1)) : W p l e R s m args below meth c H locs cells slots (MQ below (XQr g post) args s cells slots (Aw g)) (F0 m pc ls [.ref (g.2.1 k)]) := by
  obtain ⟨hx, hb, hml, hown, hts, hG, hr, hlk⟩ := E
  exact W.aret (v := .ref (g.2.1 k)) hx hb hr hrt (Or.inr ⟨_, rfl⟩) (fun t ht hW => ⟨⟨(k, σ), g.2.1 k, rfl, hq, rfl, by show va_P _ _ _ t.heap; rw [ht]; exact h.1⟩, h.2.F ht⟩) h.2.2.2 hdg hlk
theorem x_vr {y : MethodName} {ws ws' : List Cond} {rm : Room} {As st0 : List Value} {bytes : ByteArray} {maxL idx n : Nat} {rt : Option FieldType} {post : Nat → ST → Prop} {k ci N : Nat} {C : String} {T : u_T} (E : EV p s m args meth c cc own Ts nL ret g) (h : HW g σ s H locs) (hM : XM l g y ws rm (.ref (g.2.1 k) :: As) σ (XQr g post)) (O : OC g k ci) (hc : vwCl[ci]? = some (C, T, N)) (hG : GoodIn Ts (wsV own idx C y ws)) (hw : ws = Cond.code y bytes maxL rt :: ws') (hr0 : rm.cells = 0 ∧ rm.slots = 0) {na : Nat} (hna : As.length = na) (hd : y.cls = C ∧ y.cls ≠ "java/lang/invoke/MethodHandle" ∧ y.cls ≠ "java/lang/invoke/VarHandle" ∧ (parseMethodDescriptor y.desc).map (fun d => d.parameters.length) = some na) (hR : rm.frames + 1 ≤ R.frames ∧ 8 + (maxL + 11) + rm.locals ≤ R.locals) (hls : ls.size = nL) (hst : st0 = As.reverse ++ .ref (g.2.1 k) :: rest) (hW : (rest.map fun v => v.category).sum ≤ 8) (hdg : decode cc pc = .ok (.invokevirtual idx, 3)) (hroom : cells ≤ R.cells ∧ slots ≤ R.slots)
    (kk : ∀ (r : Nat) (σ' : ST) (H1 : Heap) (locs1 : List Loc), post r σ' → HW g σ' s H1 locs1 → W p l e R s m args below meth c H1 locs1 cells slots Q (F0 m (pc + 3) ls (.ref (g.2.1 r) :: rest))) : W p l e R s m args below meth c H locs cells slots Q (F0 m pc ls st0) := by
  subst hst
  subst hna
  have hts := E.2.2.2.2.1
  refine va_callr (va_runV (As := As) (rest := rest) ⟨E.1, E.2.1, E.2.2.1, E.2.2.2.1, hts⟩ hM (cwV As.length hts hG hw hr0.1 hr0.2 hd hR) (x_preV E h O hc As) rfl rfl hls rfl (lv_room hW) hdg hroom) h.2 (fun _ _ q => q) (fun _ q => q) (fun u ra t H1 locs1 ht hvm hpost hB hz hk hS => ?_)
  obtain ⟨hra, hB⟩ := hB
  subst hra
  rw [XB, ht] at hB
  exact kk u.1 u.2 H1 locs1 hpost ⟨hB, hS⟩
end XR
theorem x_neI {x : Int32} {a : Int32} {n : Int} (h : ¬ x = a) (ha : a.toInt = n) : x.toInt ≠ n := fun q => h (Int32.toInt_inj.mp (q.trans ha.symm))
theorem x_out3 {x : Int32} (h0 : ¬ x = 0) (h1 : ¬ x = 1) (h2 : ¬ x = 2) (h3 : ¬ x = 3) : x.toInt < 0 ∨ 3 < x.toInt := by
  have e0 := x_neI h0 (n := 0) rfl
  have e1 := x_neI h1 (n := 1) rfl
  have e2 := x_neI h2 (n := 2) rfl
  have e3 := x_neI h3 (n := 3) rfl
  omega
theorem x_out5 {x : Int32} (h0 : ¬ x = 0) (h1 : ¬ x = 1) (h2 : ¬ x = 2) (h3 : ¬ x = 3) (h4 : ¬ x = 4) (h5 : ¬ x = 5) : x.toInt < 0 ∨ 5 < x.toInt := by
  have e0 := x_neI h0 (n := 0) rfl
  have e1 := x_neI h1 (n := 1) rfl
  have e2 := x_neI h2 (n := 2) rfl
  have e3 := x_neI h3 (n := 3) rfl
  have e4 := x_neI h4 (n := 4) rfl
  have e5 := x_neI h5 (n := 5) rfl
  omega
theorem x_out6 {x : Int32} (h0 : ¬ x = 0) (h1 : ¬ x = 1) (h2 : ¬ x = 2) (h3 : ¬ x = 3) (h4 : ¬ x = 4) (h5 : ¬ x = 5) (h6 : ¬ x = 6) : x.toInt < 0 ∨ 6 < x.toInt := by
  have e0 := x_neI h0 (n := 0) rfl
  have e1 := x_neI h1 (n := 1) rfl
  have e2 := x_neI h2 (n := 2) rfl
  have e3 := x_neI h3 (n := 3) rfl
  have e4 := x_neI h4 (n := 4) rfl
  have e5 := x_neI h5 (n := 5) rfl
  have e6 := x_neI h6 (n := 6) rfl
  omega
/-- within: 1 or 0 -/
def bB (x lo hi : Int32) : Int32 := if x < lo then 0 else if hi < x then 0 else 1
theorem bB_none (x : Int32) : bB x 0 (-1) = 0 := by
  unfold bB
  split
  · rfl
  · split
    · rfl
    · rename_i h1 h2
      rw [Int32.lt_iff_toInt_lt] at h1 h2
      have a : (0 : Int32).toInt = 0 := rfl
      have b : (-1 : Int32).toInt = -1 := rfl
      omega
theorem sI_sI (σ : ST) (i : Nat) (v w : Int32) : sI (sI σ i v) i w = sI σ i w := by
  unfold sI
  refine Prod.ext (funext fun j => ?_) rfl
  show cond (Nat.beq j i) w (cond (Nat.beq j i) v (σ.1 j)) = cond (Nat.beq j i) w (σ.1 j)
  cases Nat.beq j i <;> rfl
theorem sA_sA (σ : ST) (i : Nat) (v w : Nat → Int32) : sA (sA σ i v) i w = sA σ i w := by
  unfold sA
  refine Prod.ext rfl (Prod.ext rfl (funext fun j => ?_))
  show cond (Nat.beq j i) w (cond (Nat.beq j i) v (σ.2.2 j)) = cond (Nat.beq j i) w (σ.2.2 j)
  cases Nat.beq j i <;> rfl
theorem sA_get (σ : ST) (i : Nat) (f : Nat → Int32) : (sA σ i f).2.2 i = f := by
  show cond (Nat.beq i i) f (σ.2.2 i) = f
  rw [Nat.beq_refl]
  rfl
theorem sI_get (σ : ST) (i : Nat) (v : Int32) : (sI σ i v).1 i = v := by
  show cond (Nat.beq i i) v (σ.1 i) = v
  rw [Nat.beq_refl]
  rfl
end
section
/-! small facts of numbers; fill -/
theorem x_le3 {a b : Int32} (h1 : ¬ a < 0) (h2 : ¬ b < a) : 0 ≤ b := by
  rw [Int32.lt_iff_toInt_lt] at h1 h2
  rw [Int32.le_iff_toInt_le]
  have z : (0 : Int32).toInt = 0 := rfl
  omega
theorem x_ge0 {a : Int32} (h1 : ¬ a < 0) (h2 : ¬ 0 ≤ a) : False := by
  rw [Int32.lt_iff_toInt_lt] at h1
  rw [Int32.le_iff_toInt_le] at h2
  have z : (0 : Int32).toInt = 0 := rfl
  omega
theorem bB_spec {x lo hi : Int32} (h : bB x lo hi = 1) : ¬ x < lo ∧ ¬ hi < x := by
  unfold bB at h
  split at h
  · exact absurd h (by decide)
  · split at h
    · exact absurd h (by decide)
    · rename_i h1 h2
      exact ⟨h1, h2⟩
theorem bB_ge {x hi : Int32} (h : bB x 0 hi = 1) (h2 : ¬ 0 ≤ x) : False := x_ge0 (bB_spec h).1 h2
theorem bB_01 {x lo hi : Int32} (h : bB x lo hi = 1) (h2 : bB x lo hi = 0) : False := absurd (h.symm.trans h2) (by decide)
theorem bB_n1 {x : Int32} (h : bB x 0 (-1) = 1) : False := absurd (h.symm.trans (bB_none x)) (by decide)
theorem x_bnd {x lo hi : Int32} {a b : Int} (h : bB x lo hi = 1) (ha : lo.toInt = a) (hb : hi.toInt = b) : a ≤ x.toInt ∧ x.toInt ≤ b := by
  obtain ⟨h1, h2⟩ := bB_spec h
  rw [Int32.lt_iff_toInt_lt] at h1 h2
  omega
theorem x_isI {x y : Int32} {n : Int} (h : x.toInt = n) (hy : y.toInt = n) : x = y := Int32.toInt_inj.mp (h.trans hy.symm)
theorem bB_0_5 {x : Int32} (h : bB x 0 5 = 1) : x = 0 ∨ x = 1 ∨ x = 2 ∨ x = 3 ∨ x = 4 ∨ x = 5 := by
  obtain ⟨h1, h2⟩ := x_bnd h (a := 0) (b := 5) rfl rfl
  rcases (show x.toInt = 0 ∨ x.toInt = 1 ∨ x.toInt = 2 ∨ x.toInt = 3 ∨ x.toInt = 4 ∨ x.toInt = 5 by omega) with e | e | e | e | e | e
  · exact Or.inl (x_isI e rfl)
  · exact Or.inr (Or.inl (x_isI e rfl))
  · exact Or.inr (Or.inr (Or.inl (x_isI e rfl)))
  · exact Or.inr (Or.inr (Or.inr (Or.inl (x_isI e rfl))))
  · exact Or.inr (Or.inr (Or.inr (Or.inr (Or.inl (x_isI e rfl)))))
  · exact Or.inr (Or.inr (Or.inr (Or.inr (Or.inr (x_isI e rfl)))))
theorem bB_1_8 {x : Int32} (h : bB x 1 8 = 1) : x = 1 ∨ x = 2 ∨ x = 3 ∨ x = 4 ∨ x = 5 ∨ x = 6 ∨ x = 7 ∨ x = 8 := by
  obtain ⟨h1, h2⟩ := x_bnd h (a := 1) (b := 8) rfl rfl
  rcases (show x.toInt = 1 ∨ x.toInt = 2 ∨ x.toInt = 3 ∨ x.toInt = 4 ∨ x.toInt = 5 ∨ x.toInt = 6 ∨ x.toInt = 7 ∨ x.toInt = 8 by omega) with e | e | e | e | e | e | e | e
  · exact Or.inl (x_isI e rfl)
  · exact Or.inr (Or.inl (x_isI e rfl))
  · exact Or.inr (Or.inr (Or.inl (x_isI e rfl)))
  · exact Or.inr (Or.inr (Or.inr (Or.inl (x_isI e rfl))))
  · exact Or.inr (Or.inr (Or.inr (Or.inr (Or.inl (x_isI e rfl)))))
  · exact Or.inr (Or.inr (Or.inr (Or.inr (Or.inr (Or.inl (x_isI e rfl))))))
  · exact Or.inr (Or.inr (Or.inr (Or.inr (Or.inr (Or.inr (Or.inl (x_isI e rfl)))))))
  · exact Or.inr (Or.inr (Or.inr (Or.inr (Or.inr (Or.inr (Or.inr (x_isI e rfl)))))))
theorem bB_1_9 {x : Int32} (h : bB x 1 9 = 1) : x = 1 ∨ x = 2 ∨ x = 3 ∨ x = 4 ∨ x = 5 ∨ x = 6 ∨ x = 7 ∨ x = 8 ∨ x = 9 := by
  obtain ⟨h1, h2⟩ := x_bnd h (a := 1) (b := 9) rfl rfl
  rcases (show x.toInt = 1 ∨ x.toInt = 2 ∨ x.toInt = 3 ∨ x.toInt = 4 ∨ x.toInt = 5 ∨ x.toInt = 6 ∨ x.toInt = 7 ∨ x.toInt = 8 ∨ x.toInt = 9 by omega) with e | e | e | e | e | e | e | e | e
  · exact Or.inl (x_isI e rfl)
  · exact Or.inr (Or.inl (x_isI e rfl))
  · exact Or.inr (Or.inr (Or.inl (x_isI e rfl)))
  · exact Or.inr (Or.inr (Or.inr (Or.inl (x_isI e rfl))))
  · exact Or.inr (Or.inr (Or.inr (Or.inr (Or.inl (x_isI e rfl)))))
  · exact Or.inr (Or.inr (Or.inr (Or.inr (Or.inr (Or.inl (x_isI e rfl))))))
  · exact Or.inr (Or.inr (Or.inr (Or.inr (Or.inr (Or.inr (Or.inl (x_isI e rfl)))))))
  · exact Or.inr (Or.inr (Or.inr (Or.inr (Or.inr (Or.inr (Or.inr (Or.inl (x_isI e rfl))))))))
  · exact Or.inr (Or.inr (Or.inr (Or.inr (Or.inr (Or.inr (Or.inr (Or.inr (x_isI e rfl))))))))
theorem x_ltn {i n : Nat} {N : Int32} (hN : N = nI n) (hn : n < 2 ^ 31) (hi : i ≤ n) (c : ¬ N ≤ nI i) : i < n := by
  rcases Nat.lt_or_ge i n with h | h
  · exact h
  · exact absurd (by rw [hN]; exact nI_le h (by omega)) c
theorem x_eqn {i n : Nat} {N : Int32} (hN : N = nI n) (hn : n < 2 ^ 31) (hi : i ≤ n) (c : N ≤ nI i) : i = n := by
  rcases Nat.lt_or_ge i n with h | h
  · exact absurd c (by rw [hN]; exact nI_ge h hn)
  · omega
theorem x_all {i n : Nat} {N : Int32} {f : Nat → Int32} (hN : N = nI n) (hn : n < 2 ^ 31) (hi : i ≤ n) (c : N ≤ nI i) (hf : ∀ j, j < i → f j = 0) : ∀ j, j < n → f j = 0 := by
  have e := x_eqn hN hn hi c
  subst e
  exact hf
theorem x_zero {i : Nat} {f : Nat → Int32} (hf : ∀ j, j < i → f j = 0) : ∀ j, j < i + 1 → upd f i 0 j = 0 := by
  intro j hj
  unfold upd
  split
  · rfl
  · exact hf j (by omega)
theorem x_and (i : Nat) (y : Int32) (hi : i < 2 ^ 31) : ∃ j : Nat, j ≤ i ∧ nI i &&& y = nI j := by
  refine ⟨(nI i &&& y).toBitVec.toNat, ?_, ?_⟩
  · show ((nI i).toBitVec &&& y.toBitVec).toNat ≤ i
    rw [BitVec.toNat_and, pk_tn (by omega)]
    exact Nat.and_le_left
  · refine Int32.toBitVec_inj.mp (BitVec.eq_of_toNat_eq ?_)
    rw [pk_tn]
    have h1 : (nI i &&& y).toBitVec.toNat ≤ i := by
      show ((nI i).toBitVec &&& y.toBitVec).toNat ≤ i
      rw [BitVec.toNat_and, pk_tn (by omega)]
      exact Nat.and_le_left
    omega
theorem sA_self (σ : ST) (a : Nat) : sA σ a (σ.2.2 a) = σ := by
  unfold sA
  refine Prod.ext rfl (Prod.ext rfl (funext fun j => ?_))
  show cond (Nat.beq j a) (σ.2.2 a) (σ.2.2 j) = σ.2.2 j
  cases h : Nat.beq j a
  · rfl
  · rw [Nat.eq_of_beq_eq_true h]
    rfl
set_option maxHeartbeats 4000000 in
set_option maxRecDepth 100000 in
/-- Arrays.fill of the whole array in cell k -/
theorem k_fill (l : Launch) (g : CX) (σ : ST) (k n a : Nat) (A : IA g k n a .int) (hn : n < 2 ^ 31) (v : Int32) : XM l g yJ7_fill_53178 wsJ7_fill_53178 { frames := 0, cells := 0, slots := 0, locals := 0 } [.ref (g.2.1 k), .int v] σ (XQv g (fun σ' => σ' = sA σ a (fun j => if j < n then v else σ.2.2 a j))) := by
  refine x_met (own := RJ7) (cc := cJ7_fill_53178) (maxL := 4) (ret := none) (lv := [(0, .ref (g.2.1 k)), (1, .int v)]) (by decide) rfl rfl (Nat.le_of_ble_eq_true rfl) rfl ?_
  intro p e s m args below meth c ls E h hl
  have hx := E.1
  have hb := E.2.1
  refine lv_iconst (v := 0) hx hb dJ7_fill_53178_0 (by decide) ?_
  refine lv_istore_n (lv' := [(2, .int 0), (0, .ref (g.2.1 k)), (1, .int v)]) hx hb dJ7_fill_53178_1 rfl hl (by decide) rfl (fun ls hl => ?_)
  refine lv_aload_n hx hb dJ7_fill_53178_2 rfl (lv_at hl 1 rfl) ?_
  refine x_len E h A (v := nI n) rfl dJ7_fill_53178_3 ?_
  refine lv_istore_n (lv' := [(3, .int (nI n)), (2, .int 0), (0, .ref (g.2.1 k)), (1, .int v)]) hx hb dJ7_fill_53178_4 rfl hl (by decide) rfl (fun ls hl => ?_)
  have loop : ∀ (fu i : Nat) (f : Nat → Int32), i ≤ n → (∀ j, f j = if j < i then v else σ.2.2 a j) → n - i < fu → ∀ (H : Heap) (locs : List Loc) (ls : Array Slot), HW g (sA σ a f) s H locs → lv_has ls 4 [(2, .int (nI i)), (3, .int (nI n)), (0, .ref (g.2.1 k)), (1, .int v)] → W p l e { frames := 0, cells := 0, slots := 0, locals := 0 } s m args below meth c H locs 0 0 (MQ below (XQv g (fun σ' => σ' = sA σ a (fun j => if j < n then v else σ.2.2 a j))) args s 0 0 (Aw g)) (F0 m 5 ls []) := by
    intro fu
    induction fu with
    | zero => intro i f _ _ hm; exact absurd hm (Nat.not_lt_zero _)
    | succ fu ih =>
      intro i f hi hf hm H locs ls h hl
      refine lv_iload_n hx hb dJ7_fill_53178_5 rfl (lv_at hl 0 rfl) ?_
      refine lv_iload_n hx hb dJ7_fill_53178_6 rfl (lv_at hl 1 rfl) ?_
      refine lv_icmp_ge (tgt := 20) hx hb dJ7_fill_53178_7 (by decide) (fun c1 => ?_) (fun c1 => ?_)
      · have e := x_eqn rfl hn hi c1
        subst e
        exact x_vret E h (congrArg (sA σ a) (funext fun j => hf j)) dJ7_fill_53178_20
      · have hlt := x_ltn rfl hn hi c1
        refine lv_aload_n hx hb dJ7_fill_53178_10 rfl (lv_at hl 2 rfl) ?_
        refine lv_iload_n hx hb dJ7_fill_53178_11 rfl (lv_at hl 0 rfl) ?_
        refine lv_iload_n hx hb dJ7_fill_53178_12 rfl (lv_at hl 3 rfl) ?_
        refine x_stI E h A (vp_in_nI hlt hn) (j := i) (nI_clamp (by omega)) rfl dJ7_fill_53178_13 (fun H locs h => ?_)
        refine lv_iinc (v := nI (i + 1)) (lv' := [(2, .int (nI (i + 1))), (3, .int (nI n)), (0, .ref (g.2.1 k)), (1, .int v)]) hx hb dJ7_fill_53178_14 hl (k := 0) rfl (nI_1 _) (by decide) rfl (fun ls hl => ?_)
        refine lv_goto (tgt := 5) hx hb dJ7_fill_53178_17 (by decide) ?_
        rw [sA_sA, sA_get] at h
        refine ih (i + 1) (upd f i v) (Nat.succ_le_of_lt hlt) (fun j => ?_) (by omega) _ _ _ h hl
        unfold upd
        by_cases e : j = i
        · subst e
          simp
        · rw [if_neg e, hf j]
          by_cases e2 : j < i
          · rw [if_pos e2, if_pos (by omega)]
          · rw [if_neg e2, if_neg (by omega)]
  exact loop _ 0 (σ.2.2 a) (Nat.zero_le _) (fun j => by rw [if_neg (Nat.not_lt_zero _)]) (Nat.lt_succ_self _) _ _ _ (by rw [sA_self]; exact h) (lv_sub hl [1, 0, 2, 3] rfl)
/-- the reference's own fields stay -/
def MO (σ' σ : ST) : Prop := σ'.1 25 = σ.1 25 ∧ σ'.1 26 = σ.1 26 ∧ σ'.1 27 = σ.1 27 ∧ σ'.1 28 = σ.1 28 ∧ σ'.1 29 = σ.1 29 ∧ σ'.1 30 = σ.1 30 ∧ σ'.1 31 = σ.1 31 ∧ σ'.1 32 = σ.1 32 ∧ σ'.1 33 = σ.1 33 ∧ σ'.1 34 = σ.1 34 ∧ σ'.1 35 = σ.1 35 ∧ σ'.1 36 = σ.1 36 ∧ σ'.1 37 = σ.1 37 ∧ σ'.1 38 = σ.1 38 ∧ σ'.1 39 = σ.1 39 ∧ σ'.1 40 = σ.1 40 ∧ σ'.2.2 66 = σ.2.2 66 ∧ σ'.2.1 3 = σ.2.1 3
theorem MO.refl (σ : ST) : MO σ σ := ⟨rfl, rfl, rfl, rfl, rfl, rfl, rfl, rfl, rfl, rfl, rfl, rfl, rfl, rfl, rfl, rfl, rfl, rfl⟩
theorem bB_eq0 {x lo hi y : Int32} (e : x = y) (h : bB x lo hi = 0) (hd : bB y lo hi = 1) : False := by
  subst e
  exact absurd (h.symm.trans hd) (by decide)
theorem bB_ne3 {x : Int32} (h : bB x 0 3 = 1) (h0 : ¬ x = 0) (h1 : ¬ x = 1) (h2 : ¬ x = 2) (h3 : ¬ x = 3) : False := by
  have e := x_bnd h (a := 0) (b := 3) rfl rfl
  have e2 := x_out3 h0 h1 h2 h3
  omega
end
section
set_option maxHeartbeats 4000000 in
set_option maxRecDepth 100000 in
theorem kX11_within_0 (l : Launch) (g : CX) (σ : ST) (p0 : Int32) (p1 : Int32) (p2 : Int32) : XM l g yX11_within wsX11_within { frames := 0, cells := 0, slots := 0, locals := 0 } [.int p0, .int p1, .int p2] σ (XQi g (fun r σ' => (bB p0 p1 p2 = 1 ∧ r = 1 ∧ σ' = σ) ∨ (bB p0 p1 p2 = 0 ∧ r = 0 ∧ σ' = σ))) := by
  refine x_met (own := RX11) (cc := cX11_within) (maxL := 3) (ret := (some .boolean)) (lv := [(0, .int p0), (1, .int p1), (2, .int p2)]) (by decide) rfl rfl (Nat.le_of_ble_eq_true rfl) rfl ?_
  intro p e s m args below meth c ls E h hl
  have hx := E.1
  have hb := E.2.1
  have hown := E.2.2.2.1
  have hts := E.2.2.2.2.1
  refine lv_iload_n hx hb dX11_within_0 rfl (lv_at hl 0 rfl) ?_
  refine lv_iload_n hx hb dX11_within_1 rfl (lv_at hl 1 rfl) ?_
  refine lv_icmp_lt (tgt := 14) hx hb dX11_within_2 (by decide) (fun c2_1 => ?_) (fun c2_1 => ?_)
  · skip
    refine lv_iconst (v := 0) hx hb dX11_within_14 (by decide) ?_
    exact x_zret E h rfl (Or.inr ⟨by simp [bB, c2_1], rfl, rfl⟩) dX11_within_15
  · skip
    refine lv_iload_n hx hb dX11_within_5 rfl (lv_at hl 0 rfl) ?_
    refine lv_iload_n hx hb dX11_within_6 rfl (lv_at hl 2 rfl) ?_
    refine lv_icmp_gt (tgt := 14) hx hb dX11_within_7 (by decide) (fun c7_2 => ?_) (fun c7_2 => ?_)
    · skip
      refine lv_iconst (v := 0) hx hb dX11_within_14 (by decide) ?_
      exact x_zret E h rfl (Or.inr ⟨by simp [bB, c2_1, c7_2], rfl, rfl⟩) dX11_within_15
    · skip
      refine lv_iconst (v := 1) hx hb dX11_within_10 (by decide) ?_
      refine lv_goto (tgt := 15) hx hb dX11_within_11 (by decide) ?_
      exact x_zret E h rfl (Or.inl ⟨by simp [bB, c2_1, c7_2], rfl, rfl⟩) dX11_within_15
set_option maxHeartbeats 4000000 in
set_option maxRecDepth 100000 in
theorem kX8_append_0 (l : Launch) (g : CX) (σ : ST) (p1 : Int64) (fI_0 : σ.1 0 = 0) : XM l g yX8_append wsX8_append { frames := 0, cells := 0, slots := 0, locals := 0 } [.ref (g.2.1 1), .long p1, .int 1] σ (XQi g (fun r σ' => r = 1 ∧ σ'.1 0 = 1 ∧ MO σ' σ)) := by
  refine x_met (own := RX8) (cc := cX8_append) (maxL := 5) (ret := (some .boolean)) (lv := [(0, .ref (g.2.1 1)), (1, .long p1), (3, .int 1)]) (by decide) rfl rfl (Nat.le_of_ble_eq_true rfl) rfl ?_
  intro p e s m args below meth c ls E h hl
  have hx := E.1
  have hb := E.2.1
  have hown := E.2.2.2.1
  have hts := E.2.2.2.2.1
  have hwX8 : ∀ w ∈ wsX80, w ∈ wsX8_append := by decide +kernel
  refine lv_iload_n hx hb dX8_append_0 rfl (lv_at hl 2 rfl) ?_
  refine lv_if_lt (tgt := 16) hx hb dX8_append_1 (by decide) (fun c => absurd c (by decide)) (fun _ => ?_)
  refine lv_iload_n hx hb dX8_append_4 rfl (lv_at hl 2 rfl) ?_
  refine lv_sipush (v := 200) hx hb dX8_append_5 (by decide) ?_
  refine lv_aload_n hx hb dX8_append_8 rfl (lv_at hl 0 rfl) ?_
  refine x_getI E h (fi_rt_length g) rfl hwX8 (by decide) (by decide +kernel) (v := 0) fI_0 dX8_append_9 ?_
  refine lv_isub hx hb dX8_append_12 ?_
  refine x_topI (v2 := 200) (by decide) ?_
  refine lv_icmp_le (tgt := 18) hx hb dX8_append_13 (by decide) (fun _ => ?_) (fun c => absurd (by decide) c)
  refine lv_iload_n hx hb dX8_append_18 rfl (lv_at hl 2 rfl) ?_
  refine lv_iconst (v := 1) hx hb dX8_append_19 (by decide) ?_
  refine lv_isub hx hb dX8_append_20 ?_
  refine x_topI (v2 := 0) (by decide) ?_
  refine lv_istore (lv' := [(4, .int 0), (0, .ref (g.2.1 1)), (1, .long p1), (3, .int 1)]) hx hb dX8_append_21 hl (by decide) rfl (fun ls hl => ?_)
  refine lv_iload hx hb dX8_append_23 (lv_at hl 0 rfl) ?_
  refine lv_if_lt (tgt := 65) hx hb dX8_append_25 (by decide) (fun c => absurd c (by decide)) (fun _ => ?_)
  refine lv_aload_n hx hb dX8_append_28 rfl (lv_at hl 1 rfl) ?_
  refine x_getR E h (fr_rt_bytes g) rfl hwX8 (by decide) (by decide +kernel) dX8_append_29 ?_
  refine lv_aload_n hx hb dX8_append_32 rfl (lv_at hl 1 rfl) ?_
  refine x_getI E h (fi_rt_length g) rfl hwX8 (by decide) (by decide +kernel) (v := 0) fI_0 dX8_append_33 ?_
  refine lv_lload_n hx hb dX8_append_36 rfl (lv_at hl 2 rfl) ?_
  refine lv_bipush (v := 8) hx hb dX8_append_37 (by decide) ?_
  refine lv_iload hx hb dX8_append_39 (lv_at hl 0 rfl) ?_
  refine lv_imul hx hb dX8_append_41 ?_
  refine x_topI (v2 := 0) (by decide) ?_
  refine lv_lushr hx hb dX8_append_42 rfl ?_
  refine lv_topl (fun y1 ey1 => ?_)
  refine lv_l2i hx hb dX8_append_43 rfl ?_
  refine lv_topi (fun x2 ex2 => ?_)
  refine lv_sipush (v := 255) hx hb dX8_append_44 (by decide) ?_
  refine lv_iand hx hb dX8_append_47 ?_
  refine x_stI E h (ia_rt_bytes g) (i := 0) (by unfold vp_in; decide) (j := (0)) rfl rfl dX8_append_48 (fun H locs h => ?_)
  refine lv_aload_n hx hb dX8_append_49 rfl (lv_at hl 1 rfl) ?_
  refine lv_dup hx hb dX8_append_50 rfl ?_
  refine x_getI E h (fi_rt_length g) rfl hwX8 (by decide) (by decide +kernel) (v := 0) fI_0 dX8_append_51 ?_
  refine lv_iconst (v := 1) hx hb dX8_append_54 (by decide) ?_
  refine lv_iadd hx hb dX8_append_55 ?_
  refine x_topI (v2 := 1) (by decide) ?_
  refine x_putI E h (ty := .int) (v := 1) (fi_rt_length g) rfl hwX8 tyX8_ok nmX8 (by decide) (by decide +kernel) (by decide +kernel) (by decide +kernel) rfl rfl dX8_append_56 (fun H locs h => ?_)
  refine lv_iinc (v := (-1)) (lv' := [(4, .int (-1)), (0, .ref (g.2.1 1)), (1, .long p1), (3, .int 1)]) hx hb dX8_append_59 hl (k := 0) rfl (by decide) (by decide) rfl (fun ls hl => ?_)
  refine lv_goto (tgt := 23) hx hb dX8_append_62 (by decide) ?_
  refine lv_iload hx hb dX8_append_23 (lv_at hl 0 rfl) ?_
  refine lv_if_lt (tgt := 65) hx hb dX8_append_25 (by decide) (fun _ => ?_) (fun c => absurd (by decide) c)
  refine lv_iconst (v := 1) hx hb dX8_append_65 (by decide) ?_
  exact x_zret E h rfl ⟨rfl, rfl, MO.refl σ⟩ dX8_append_66
set_option maxHeartbeats 4000000 in
set_option maxRecDepth 100000 in
theorem kX8_append_1 (l : Launch) (g : CX) (σ : ST) (p1 : Int64) (fI_0 : σ.1 0 = 0) : XM l g yX8_append wsX8_append { frames := 0, cells := 0, slots := 0, locals := 0 } [.ref (g.2.1 1), .long p1, .int 2] σ (XQi g (fun r σ' => r = 1 ∧ σ'.1 0 = 2 ∧ MO σ' σ)) := by
  refine x_met (own := RX8) (cc := cX8_append) (maxL := 5) (ret := (some .boolean)) (lv := [(0, .ref (g.2.1 1)), (1, .long p1), (3, .int 2)]) (by decide) rfl rfl (Nat.le_of_ble_eq_true rfl) rfl ?_
  intro p e s m args below meth c ls E h hl
  have hx := E.1
  have hb := E.2.1
  have hown := E.2.2.2.1
  have hts := E.2.2.2.2.1
  have hwX8 : ∀ w ∈ wsX80, w ∈ wsX8_append := by decide +kernel
  refine lv_iload_n hx hb dX8_append_0 rfl (lv_at hl 2 rfl) ?_
  refine lv_if_lt (tgt := 16) hx hb dX8_append_1 (by decide) (fun c => absurd c (by decide)) (fun _ => ?_)
  refine lv_iload_n hx hb dX8_append_4 rfl (lv_at hl 2 rfl) ?_
  refine lv_sipush (v := 200) hx hb dX8_append_5 (by decide) ?_
  refine lv_aload_n hx hb dX8_append_8 rfl (lv_at hl 0 rfl) ?_
  refine x_getI E h (fi_rt_length g) rfl hwX8 (by decide) (by decide +kernel) (v := 0) fI_0 dX8_append_9 ?_
  refine lv_isub hx hb dX8_append_12 ?_
  refine x_topI (v2 := 200) (by decide) ?_
  refine lv_icmp_le (tgt := 18) hx hb dX8_append_13 (by decide) (fun _ => ?_) (fun c => absurd (by decide) c)
  refine lv_iload_n hx hb dX8_append_18 rfl (lv_at hl 2 rfl) ?_
  refine lv_iconst (v := 1) hx hb dX8_append_19 (by decide) ?_
  refine lv_isub hx hb dX8_append_20 ?_
  refine x_topI (v2 := 1) (by decide) ?_
  refine lv_istore (lv' := [(4, .int 1), (0, .ref (g.2.1 1)), (1, .long p1), (3, .int 2)]) hx hb dX8_append_21 hl (by decide) rfl (fun ls hl => ?_)
  refine lv_iload hx hb dX8_append_23 (lv_at hl 0 rfl) ?_
  refine lv_if_lt (tgt := 65) hx hb dX8_append_25 (by decide) (fun c => absurd c (by decide)) (fun _ => ?_)
  refine lv_aload_n hx hb dX8_append_28 rfl (lv_at hl 1 rfl) ?_
  refine x_getR E h (fr_rt_bytes g) rfl hwX8 (by decide) (by decide +kernel) dX8_append_29 ?_
  refine lv_aload_n hx hb dX8_append_32 rfl (lv_at hl 1 rfl) ?_
  refine x_getI E h (fi_rt_length g) rfl hwX8 (by decide) (by decide +kernel) (v := 0) fI_0 dX8_append_33 ?_
  refine lv_lload_n hx hb dX8_append_36 rfl (lv_at hl 2 rfl) ?_
  refine lv_bipush (v := 8) hx hb dX8_append_37 (by decide) ?_
  refine lv_iload hx hb dX8_append_39 (lv_at hl 0 rfl) ?_
  refine lv_imul hx hb dX8_append_41 ?_
  refine x_topI (v2 := 8) (by decide) ?_
  refine lv_lushr hx hb dX8_append_42 rfl ?_
  refine lv_topl (fun y1 ey1 => ?_)
  refine lv_l2i hx hb dX8_append_43 rfl ?_
  refine lv_topi (fun x2 ex2 => ?_)
  refine lv_sipush (v := 255) hx hb dX8_append_44 (by decide) ?_
  refine lv_iand hx hb dX8_append_47 ?_
  refine x_stI E h (ia_rt_bytes g) (i := 0) (by unfold vp_in; decide) (j := (0)) rfl rfl dX8_append_48 (fun H locs h => ?_)
  refine lv_aload_n hx hb dX8_append_49 rfl (lv_at hl 1 rfl) ?_
  refine lv_dup hx hb dX8_append_50 rfl ?_
  refine x_getI E h (fi_rt_length g) rfl hwX8 (by decide) (by decide +kernel) (v := 0) fI_0 dX8_append_51 ?_
  refine lv_iconst (v := 1) hx hb dX8_append_54 (by decide) ?_
  refine lv_iadd hx hb dX8_append_55 ?_
  refine x_topI (v2 := 1) (by decide) ?_
  refine x_putI E h (ty := .int) (v := 1) (fi_rt_length g) rfl hwX8 tyX8_ok nmX8 (by decide) (by decide +kernel) (by decide +kernel) (by decide +kernel) rfl rfl dX8_append_56 (fun H locs h => ?_)
  refine lv_iinc (v := 0) (lv' := [(4, .int 0), (0, .ref (g.2.1 1)), (1, .long p1), (3, .int 2)]) hx hb dX8_append_59 hl (k := 0) rfl (by decide) (by decide) rfl (fun ls hl => ?_)
  refine lv_goto (tgt := 23) hx hb dX8_append_62 (by decide) ?_
  refine lv_iload hx hb dX8_append_23 (lv_at hl 0 rfl) ?_
  refine lv_if_lt (tgt := 65) hx hb dX8_append_25 (by decide) (fun c => absurd c (by decide)) (fun _ => ?_)
  refine lv_aload_n hx hb dX8_append_28 rfl (lv_at hl 1 rfl) ?_
  refine x_getR E h (fr_rt_bytes g) rfl hwX8 (by decide) (by decide +kernel) dX8_append_29 ?_
  refine lv_aload_n hx hb dX8_append_32 rfl (lv_at hl 1 rfl) ?_
  refine x_getI E h (fi_rt_length g) rfl hwX8 (by decide) (by decide +kernel) (v := 1) rfl dX8_append_33 ?_
  refine lv_lload_n hx hb dX8_append_36 rfl (lv_at hl 2 rfl) ?_
  refine lv_bipush (v := 8) hx hb dX8_append_37 (by decide) ?_
  refine lv_iload hx hb dX8_append_39 (lv_at hl 0 rfl) ?_
  refine lv_imul hx hb dX8_append_41 ?_
  refine x_topI (v2 := 0) (by decide) ?_
  refine lv_lushr hx hb dX8_append_42 rfl ?_
  refine lv_topl (fun y3 ey3 => ?_)
  refine lv_l2i hx hb dX8_append_43 rfl ?_
  refine lv_topi (fun x4 ex4 => ?_)
  refine lv_sipush (v := 255) hx hb dX8_append_44 (by decide) ?_
  refine lv_iand hx hb dX8_append_47 ?_
  refine x_stI E h (ia_rt_bytes g) (i := 1) (by unfold vp_in; decide) (j := (1)) rfl rfl dX8_append_48 (fun H locs h => ?_)
  refine lv_aload_n hx hb dX8_append_49 rfl (lv_at hl 1 rfl) ?_
  refine lv_dup hx hb dX8_append_50 rfl ?_
  refine x_getI E h (fi_rt_length g) rfl hwX8 (by decide) (by decide +kernel) (v := 1) rfl dX8_append_51 ?_
  refine lv_iconst (v := 1) hx hb dX8_append_54 (by decide) ?_
  refine lv_iadd hx hb dX8_append_55 ?_
  refine x_topI (v2 := 2) (by decide) ?_
  refine x_putI E h (ty := .int) (v := 2) (fi_rt_length g) rfl hwX8 tyX8_ok nmX8 (by decide) (by decide +kernel) (by decide +kernel) (by decide +kernel) rfl rfl dX8_append_56 (fun H locs h => ?_)
  refine lv_iinc (v := (-1)) (lv' := [(4, .int (-1)), (0, .ref (g.2.1 1)), (1, .long p1), (3, .int 2)]) hx hb dX8_append_59 hl (k := 0) rfl (by decide) (by decide) rfl (fun ls hl => ?_)
  refine lv_goto (tgt := 23) hx hb dX8_append_62 (by decide) ?_
  refine lv_iload hx hb dX8_append_23 (lv_at hl 0 rfl) ?_
  refine lv_if_lt (tgt := 65) hx hb dX8_append_25 (by decide) (fun _ => ?_) (fun c => absurd (by decide) c)
  refine lv_iconst (v := 1) hx hb dX8_append_65 (by decide) ?_
  exact x_zret E h rfl ⟨rfl, rfl, MO.refl σ⟩ dX8_append_66
set_option maxHeartbeats 4000000 in
set_option maxRecDepth 100000 in
theorem kX8_append_2 (l : Launch) (g : CX) (σ : ST) (p1 : Int64) (fI_0 : σ.1 0 = 0) : XM l g yX8_append wsX8_append { frames := 0, cells := 0, slots := 0, locals := 0 } [.ref (g.2.1 1), .long p1, .int 3] σ (XQi g (fun r σ' => r = 1 ∧ σ'.1 0 = 3 ∧ MO σ' σ)) := by
  refine x_met (own := RX8) (cc := cX8_append) (maxL := 5) (ret := (some .boolean)) (lv := [(0, .ref (g.2.1 1)), (1, .long p1), (3, .int 3)]) (by decide) rfl rfl (Nat.le_of_ble_eq_true rfl) rfl ?_
  intro p e s m args below meth c ls E h hl
  have hx := E.1
  have hb := E.2.1
  have hown := E.2.2.2.1
  have hts := E.2.2.2.2.1
  have hwX8 : ∀ w ∈ wsX80, w ∈ wsX8_append := by decide +kernel
  refine lv_iload_n hx hb dX8_append_0 rfl (lv_at hl 2 rfl) ?_
  refine lv_if_lt (tgt := 16) hx hb dX8_append_1 (by decide) (fun c => absurd c (by decide)) (fun _ => ?_)
  refine lv_iload_n hx hb dX8_append_4 rfl (lv_at hl 2 rfl) ?_
  refine lv_sipush (v := 200) hx hb dX8_append_5 (by decide) ?_
  refine lv_aload_n hx hb dX8_append_8 rfl (lv_at hl 0 rfl) ?_
  refine x_getI E h (fi_rt_length g) rfl hwX8 (by decide) (by decide +kernel) (v := 0) fI_0 dX8_append_9 ?_
  refine lv_isub hx hb dX8_append_12 ?_
  refine x_topI (v2 := 200) (by decide) ?_
  refine lv_icmp_le (tgt := 18) hx hb dX8_append_13 (by decide) (fun _ => ?_) (fun c => absurd (by decide) c)
  refine lv_iload_n hx hb dX8_append_18 rfl (lv_at hl 2 rfl) ?_
  refine lv_iconst (v := 1) hx hb dX8_append_19 (by decide) ?_
  refine lv_isub hx hb dX8_append_20 ?_
  refine x_topI (v2 := 2) (by decide) ?_
  refine lv_istore (lv' := [(4, .int 2), (0, .ref (g.2.1 1)), (1, .long p1), (3, .int 3)]) hx hb dX8_append_21 hl (by decide) rfl (fun ls hl => ?_)
  refine lv_iload hx hb dX8_append_23 (lv_at hl 0 rfl) ?_
  refine lv_if_lt (tgt := 65) hx hb dX8_append_25 (by decide) (fun c => absurd c (by decide)) (fun _ => ?_)
  refine lv_aload_n hx hb dX8_append_28 rfl (lv_at hl 1 rfl) ?_
  refine x_getR E h (fr_rt_bytes g) rfl hwX8 (by decide) (by decide +kernel) dX8_append_29 ?_
  refine lv_aload_n hx hb dX8_append_32 rfl (lv_at hl 1 rfl) ?_
  refine x_getI E h (fi_rt_length g) rfl hwX8 (by decide) (by decide +kernel) (v := 0) fI_0 dX8_append_33 ?_
  refine lv_lload_n hx hb dX8_append_36 rfl (lv_at hl 2 rfl) ?_
  refine lv_bipush (v := 8) hx hb dX8_append_37 (by decide) ?_
  refine lv_iload hx hb dX8_append_39 (lv_at hl 0 rfl) ?_
  refine lv_imul hx hb dX8_append_41 ?_
  refine x_topI (v2 := 16) (by decide) ?_
  refine lv_lushr hx hb dX8_append_42 rfl ?_
  refine lv_topl (fun y1 ey1 => ?_)
  refine lv_l2i hx hb dX8_append_43 rfl ?_
  refine lv_topi (fun x2 ex2 => ?_)
  refine lv_sipush (v := 255) hx hb dX8_append_44 (by decide) ?_
  refine lv_iand hx hb dX8_append_47 ?_
  refine x_stI E h (ia_rt_bytes g) (i := 0) (by unfold vp_in; decide) (j := (0)) rfl rfl dX8_append_48 (fun H locs h => ?_)
  refine lv_aload_n hx hb dX8_append_49 rfl (lv_at hl 1 rfl) ?_
  refine lv_dup hx hb dX8_append_50 rfl ?_
  refine x_getI E h (fi_rt_length g) rfl hwX8 (by decide) (by decide +kernel) (v := 0) fI_0 dX8_append_51 ?_
  refine lv_iconst (v := 1) hx hb dX8_append_54 (by decide) ?_
  refine lv_iadd hx hb dX8_append_55 ?_
  refine x_topI (v2 := 1) (by decide) ?_
  refine x_putI E h (ty := .int) (v := 1) (fi_rt_length g) rfl hwX8 tyX8_ok nmX8 (by decide) (by decide +kernel) (by decide +kernel) (by decide +kernel) rfl rfl dX8_append_56 (fun H locs h => ?_)
  refine lv_iinc (v := 1) (lv' := [(4, .int 1), (0, .ref (g.2.1 1)), (1, .long p1), (3, .int 3)]) hx hb dX8_append_59 hl (k := 0) rfl (by decide) (by decide) rfl (fun ls hl => ?_)
  refine lv_goto (tgt := 23) hx hb dX8_append_62 (by decide) ?_
  refine lv_iload hx hb dX8_append_23 (lv_at hl 0 rfl) ?_
  refine lv_if_lt (tgt := 65) hx hb dX8_append_25 (by decide) (fun c => absurd c (by decide)) (fun _ => ?_)
  refine lv_aload_n hx hb dX8_append_28 rfl (lv_at hl 1 rfl) ?_
  refine x_getR E h (fr_rt_bytes g) rfl hwX8 (by decide) (by decide +kernel) dX8_append_29 ?_
  refine lv_aload_n hx hb dX8_append_32 rfl (lv_at hl 1 rfl) ?_
  refine x_getI E h (fi_rt_length g) rfl hwX8 (by decide) (by decide +kernel) (v := 1) rfl dX8_append_33 ?_
  refine lv_lload_n hx hb dX8_append_36 rfl (lv_at hl 2 rfl) ?_
  refine lv_bipush (v := 8) hx hb dX8_append_37 (by decide) ?_
  refine lv_iload hx hb dX8_append_39 (lv_at hl 0 rfl) ?_
  refine lv_imul hx hb dX8_append_41 ?_
  refine x_topI (v2 := 8) (by decide) ?_
  refine lv_lushr hx hb dX8_append_42 rfl ?_
  refine lv_topl (fun y3 ey3 => ?_)
  refine lv_l2i hx hb dX8_append_43 rfl ?_
  refine lv_topi (fun x4 ex4 => ?_)
  refine lv_sipush (v := 255) hx hb dX8_append_44 (by decide) ?_
  refine lv_iand hx hb dX8_append_47 ?_
  refine x_stI E h (ia_rt_bytes g) (i := 1) (by unfold vp_in; decide) (j := (1)) rfl rfl dX8_append_48 (fun H locs h => ?_)
  refine lv_aload_n hx hb dX8_append_49 rfl (lv_at hl 1 rfl) ?_
  refine lv_dup hx hb dX8_append_50 rfl ?_
  refine x_getI E h (fi_rt_length g) rfl hwX8 (by decide) (by decide +kernel) (v := 1) rfl dX8_append_51 ?_
  refine lv_iconst (v := 1) hx hb dX8_append_54 (by decide) ?_
  refine lv_iadd hx hb dX8_append_55 ?_
  refine x_topI (v2 := 2) (by decide) ?_
  refine x_putI E h (ty := .int) (v := 2) (fi_rt_length g) rfl hwX8 tyX8_ok nmX8 (by decide) (by decide +kernel) (by decide +kernel) (by decide +kernel) rfl rfl dX8_append_56 (fun H locs h => ?_)
  refine lv_iinc (v := 0) (lv' := [(4, .int 0), (0, .ref (g.2.1 1)), (1, .long p1), (3, .int 3)]) hx hb dX8_append_59 hl (k := 0) rfl (by decide) (by decide) rfl (fun ls hl => ?_)
  refine lv_goto (tgt := 23) hx hb dX8_append_62 (by decide) ?_
  refine lv_iload hx hb dX8_append_23 (lv_at hl 0 rfl) ?_
  refine lv_if_lt (tgt := 65) hx hb dX8_append_25 (by decide) (fun c => absurd c (by decide)) (fun _ => ?_)
  refine lv_aload_n hx hb dX8_append_28 rfl (lv_at hl 1 rfl) ?_
  refine x_getR E h (fr_rt_bytes g) rfl hwX8 (by decide) (by decide +kernel) dX8_append_29 ?_
  refine lv_aload_n hx hb dX8_append_32 rfl (lv_at hl 1 rfl) ?_
  refine x_getI E h (fi_rt_length g) rfl hwX8 (by decide) (by decide +kernel) (v := 2) rfl dX8_append_33 ?_
  refine lv_lload_n hx hb dX8_append_36 rfl (lv_at hl 2 rfl) ?_
  refine lv_bipush (v := 8) hx hb dX8_append_37 (by decide) ?_
  refine lv_iload hx hb dX8_append_39 (lv_at hl 0 rfl) ?_
  refine lv_imul hx hb dX8_append_41 ?_
  refine x_topI (v2 := 0) (by decide) ?_
  refine lv_lushr hx hb dX8_append_42 rfl ?_
  refine lv_topl (fun y5 ey5 => ?_)
  refine lv_l2i hx hb dX8_append_43 rfl ?_
  refine lv_topi (fun x6 ex6 => ?_)
  refine lv_sipush (v := 255) hx hb dX8_append_44 (by decide) ?_
  refine lv_iand hx hb dX8_append_47 ?_
  refine x_stI E h (ia_rt_bytes g) (i := 2) (by unfold vp_in; decide) (j := (2)) rfl rfl dX8_append_48 (fun H locs h => ?_)
  refine lv_aload_n hx hb dX8_append_49 rfl (lv_at hl 1 rfl) ?_
  refine lv_dup hx hb dX8_append_50 rfl ?_
  refine x_getI E h (fi_rt_length g) rfl hwX8 (by decide) (by decide +kernel) (v := 2) rfl dX8_append_51 ?_
  refine lv_iconst (v := 1) hx hb dX8_append_54 (by decide) ?_
  refine lv_iadd hx hb dX8_append_55 ?_
  refine x_topI (v2 := 3) (by decide) ?_
  refine x_putI E h (ty := .int) (v := 3) (fi_rt_length g) rfl hwX8 tyX8_ok nmX8 (by decide) (by decide +kernel) (by decide +kernel) (by decide +kernel) rfl rfl dX8_append_56 (fun H locs h => ?_)
  refine lv_iinc (v := (-1)) (lv' := [(4, .int (-1)), (0, .ref (g.2.1 1)), (1, .long p1), (3, .int 3)]) hx hb dX8_append_59 hl (k := 0) rfl (by decide) (by decide) rfl (fun ls hl => ?_)
  refine lv_goto (tgt := 23) hx hb dX8_append_62 (by decide) ?_
  refine lv_iload hx hb dX8_append_23 (lv_at hl 0 rfl) ?_
  refine lv_if_lt (tgt := 65) hx hb dX8_append_25 (by decide) (fun _ => ?_) (fun c => absurd (by decide) c)
  refine lv_iconst (v := 1) hx hb dX8_append_65 (by decide) ?_
  exact x_zret E h rfl ⟨rfl, rfl, MO.refl σ⟩ dX8_append_66
set_option maxHeartbeats 4000000 in
set_option maxRecDepth 100000 in
theorem kX8_append_3 (l : Launch) (g : CX) (σ : ST) (p1 : Int64) (fI_0 : σ.1 0 = 0) : XM l g yX8_append wsX8_append { frames := 0, cells := 0, slots := 0, locals := 0 } [.ref (g.2.1 1), .long p1, .int 4] σ (XQi g (fun r σ' => r = 1 ∧ σ'.1 0 = 4 ∧ MO σ' σ)) := by
  refine x_met (own := RX8) (cc := cX8_append) (maxL := 5) (ret := (some .boolean)) (lv := [(0, .ref (g.2.1 1)), (1, .long p1), (3, .int 4)]) (by decide) rfl rfl (Nat.le_of_ble_eq_true rfl) rfl ?_
  intro p e s m args below meth c ls E h hl
  have hx := E.1
  have hb := E.2.1
  have hown := E.2.2.2.1
  have hts := E.2.2.2.2.1
  have hwX8 : ∀ w ∈ wsX80, w ∈ wsX8_append := by decide +kernel
  refine lv_iload_n hx hb dX8_append_0 rfl (lv_at hl 2 rfl) ?_
  refine lv_if_lt (tgt := 16) hx hb dX8_append_1 (by decide) (fun c => absurd c (by decide)) (fun _ => ?_)
  refine lv_iload_n hx hb dX8_append_4 rfl (lv_at hl 2 rfl) ?_
  refine lv_sipush (v := 200) hx hb dX8_append_5 (by decide) ?_
  refine lv_aload_n hx hb dX8_append_8 rfl (lv_at hl 0 rfl) ?_
  refine x_getI E h (fi_rt_length g) rfl hwX8 (by decide) (by decide +kernel) (v := 0) fI_0 dX8_append_9 ?_
  refine lv_isub hx hb dX8_append_12 ?_
  refine x_topI (v2 := 200) (by decide) ?_
  refine lv_icmp_le (tgt := 18) hx hb dX8_append_13 (by decide) (fun _ => ?_) (fun c => absurd (by decide) c)
  refine lv_iload_n hx hb dX8_append_18 rfl (lv_at hl 2 rfl) ?_
  refine lv_iconst (v := 1) hx hb dX8_append_19 (by decide) ?_
  refine lv_isub hx hb dX8_append_20 ?_
  refine x_topI (v2 := 3) (by decide) ?_
  refine lv_istore (lv' := [(4, .int 3), (0, .ref (g.2.1 1)), (1, .long p1), (3, .int 4)]) hx hb dX8_append_21 hl (by decide) rfl (fun ls hl => ?_)
  refine lv_iload hx hb dX8_append_23 (lv_at hl 0 rfl) ?_
  refine lv_if_lt (tgt := 65) hx hb dX8_append_25 (by decide) (fun c => absurd c (by decide)) (fun _ => ?_)
  refine lv_aload_n hx hb dX8_append_28 rfl (lv_at hl 1 rfl) ?_
  refine x_getR E h (fr_rt_bytes g) rfl hwX8 (by decide) (by decide +kernel) dX8_append_29 ?_
  refine lv_aload_n hx hb dX8_append_32 rfl (lv_at hl 1 rfl) ?_
  refine x_getI E h (fi_rt_length g) rfl hwX8 (by decide) (by decide +kernel) (v := 0) fI_0 dX8_append_33 ?_
  refine lv_lload_n hx hb dX8_append_36 rfl (lv_at hl 2 rfl) ?_
  refine lv_bipush (v := 8) hx hb dX8_append_37 (by decide) ?_
  refine lv_iload hx hb dX8_append_39 (lv_at hl 0 rfl) ?_
  refine lv_imul hx hb dX8_append_41 ?_
  refine x_topI (v2 := 24) (by decide) ?_
  refine lv_lushr hx hb dX8_append_42 rfl ?_
  refine lv_topl (fun y1 ey1 => ?_)
  refine lv_l2i hx hb dX8_append_43 rfl ?_
  refine lv_topi (fun x2 ex2 => ?_)
  refine lv_sipush (v := 255) hx hb dX8_append_44 (by decide) ?_
  refine lv_iand hx hb dX8_append_47 ?_
  refine x_stI E h (ia_rt_bytes g) (i := 0) (by unfold vp_in; decide) (j := (0)) rfl rfl dX8_append_48 (fun H locs h => ?_)
  refine lv_aload_n hx hb dX8_append_49 rfl (lv_at hl 1 rfl) ?_
  refine lv_dup hx hb dX8_append_50 rfl ?_
  refine x_getI E h (fi_rt_length g) rfl hwX8 (by decide) (by decide +kernel) (v := 0) fI_0 dX8_append_51 ?_
  refine lv_iconst (v := 1) hx hb dX8_append_54 (by decide) ?_
  refine lv_iadd hx hb dX8_append_55 ?_
  refine x_topI (v2 := 1) (by decide) ?_
  refine x_putI E h (ty := .int) (v := 1) (fi_rt_length g) rfl hwX8 tyX8_ok nmX8 (by decide) (by decide +kernel) (by decide +kernel) (by decide +kernel) rfl rfl dX8_append_56 (fun H locs h => ?_)
  refine lv_iinc (v := 2) (lv' := [(4, .int 2), (0, .ref (g.2.1 1)), (1, .long p1), (3, .int 4)]) hx hb dX8_append_59 hl (k := 0) rfl (by decide) (by decide) rfl (fun ls hl => ?_)
  refine lv_goto (tgt := 23) hx hb dX8_append_62 (by decide) ?_
  refine lv_iload hx hb dX8_append_23 (lv_at hl 0 rfl) ?_
  refine lv_if_lt (tgt := 65) hx hb dX8_append_25 (by decide) (fun c => absurd c (by decide)) (fun _ => ?_)
  refine lv_aload_n hx hb dX8_append_28 rfl (lv_at hl 1 rfl) ?_
  refine x_getR E h (fr_rt_bytes g) rfl hwX8 (by decide) (by decide +kernel) dX8_append_29 ?_
  refine lv_aload_n hx hb dX8_append_32 rfl (lv_at hl 1 rfl) ?_
  refine x_getI E h (fi_rt_length g) rfl hwX8 (by decide) (by decide +kernel) (v := 1) rfl dX8_append_33 ?_
  refine lv_lload_n hx hb dX8_append_36 rfl (lv_at hl 2 rfl) ?_
  refine lv_bipush (v := 8) hx hb dX8_append_37 (by decide) ?_
  refine lv_iload hx hb dX8_append_39 (lv_at hl 0 rfl) ?_
  refine lv_imul hx hb dX8_append_41 ?_
  refine x_topI (v2 := 16) (by decide) ?_
  refine lv_lushr hx hb dX8_append_42 rfl ?_
  refine lv_topl (fun y3 ey3 => ?_)
  refine lv_l2i hx hb dX8_append_43 rfl ?_
  refine lv_topi (fun x4 ex4 => ?_)
  refine lv_sipush (v := 255) hx hb dX8_append_44 (by decide) ?_
  refine lv_iand hx hb dX8_append_47 ?_
  refine x_stI E h (ia_rt_bytes g) (i := 1) (by unfold vp_in; decide) (j := (1)) rfl rfl dX8_append_48 (fun H locs h => ?_)
  refine lv_aload_n hx hb dX8_append_49 rfl (lv_at hl 1 rfl) ?_
  refine lv_dup hx hb dX8_append_50 rfl ?_
  refine x_getI E h (fi_rt_length g) rfl hwX8 (by decide) (by decide +kernel) (v := 1) rfl dX8_append_51 ?_
  refine lv_iconst (v := 1) hx hb dX8_append_54 (by decide) ?_
  refine lv_iadd hx hb dX8_append_55 ?_
  refine x_topI (v2 := 2) (by decide) ?_
  refine x_putI E h (ty := .int) (v := 2) (fi_rt_length g) rfl hwX8 tyX8_ok nmX8 (by decide) (by decide +kernel) (by decide +kernel) (by decide +kernel) rfl rfl dX8_append_56 (fun H locs h => ?_)
  refine lv_iinc (v := 1) (lv' := [(4, .int 1), (0, .ref (g.2.1 1)), (1, .long p1), (3, .int 4)]) hx hb dX8_append_59 hl (k := 0) rfl (by decide) (by decide) rfl (fun ls hl => ?_)
  refine lv_goto (tgt := 23) hx hb dX8_append_62 (by decide) ?_
  refine lv_iload hx hb dX8_append_23 (lv_at hl 0 rfl) ?_
  refine lv_if_lt (tgt := 65) hx hb dX8_append_25 (by decide) (fun c => absurd c (by decide)) (fun _ => ?_)
  refine lv_aload_n hx hb dX8_append_28 rfl (lv_at hl 1 rfl) ?_
  refine x_getR E h (fr_rt_bytes g) rfl hwX8 (by decide) (by decide +kernel) dX8_append_29 ?_
  refine lv_aload_n hx hb dX8_append_32 rfl (lv_at hl 1 rfl) ?_
  refine x_getI E h (fi_rt_length g) rfl hwX8 (by decide) (by decide +kernel) (v := 2) rfl dX8_append_33 ?_
  refine lv_lload_n hx hb dX8_append_36 rfl (lv_at hl 2 rfl) ?_
  refine lv_bipush (v := 8) hx hb dX8_append_37 (by decide) ?_
  refine lv_iload hx hb dX8_append_39 (lv_at hl 0 rfl) ?_
  refine lv_imul hx hb dX8_append_41 ?_
  refine x_topI (v2 := 8) (by decide) ?_
  refine lv_lushr hx hb dX8_append_42 rfl ?_
  refine lv_topl (fun y5 ey5 => ?_)
  refine lv_l2i hx hb dX8_append_43 rfl ?_
  refine lv_topi (fun x6 ex6 => ?_)
  refine lv_sipush (v := 255) hx hb dX8_append_44 (by decide) ?_
  refine lv_iand hx hb dX8_append_47 ?_
  refine x_stI E h (ia_rt_bytes g) (i := 2) (by unfold vp_in; decide) (j := (2)) rfl rfl dX8_append_48 (fun H locs h => ?_)
  refine lv_aload_n hx hb dX8_append_49 rfl (lv_at hl 1 rfl) ?_
  refine lv_dup hx hb dX8_append_50 rfl ?_
  refine x_getI E h (fi_rt_length g) rfl hwX8 (by decide) (by decide +kernel) (v := 2) rfl dX8_append_51 ?_
  refine lv_iconst (v := 1) hx hb dX8_append_54 (by decide) ?_
  refine lv_iadd hx hb dX8_append_55 ?_
  refine x_topI (v2 := 3) (by decide) ?_
  refine x_putI E h (ty := .int) (v := 3) (fi_rt_length g) rfl hwX8 tyX8_ok nmX8 (by decide) (by decide +kernel) (by decide +kernel) (by decide +kernel) rfl rfl dX8_append_56 (fun H locs h => ?_)
  refine lv_iinc (v := 0) (lv' := [(4, .int 0), (0, .ref (g.2.1 1)), (1, .long p1), (3, .int 4)]) hx hb dX8_append_59 hl (k := 0) rfl (by decide) (by decide) rfl (fun ls hl => ?_)
  refine lv_goto (tgt := 23) hx hb dX8_append_62 (by decide) ?_
  refine lv_iload hx hb dX8_append_23 (lv_at hl 0 rfl) ?_
  refine lv_if_lt (tgt := 65) hx hb dX8_append_25 (by decide) (fun c => absurd c (by decide)) (fun _ => ?_)
  refine lv_aload_n hx hb dX8_append_28 rfl (lv_at hl 1 rfl) ?_
  refine x_getR E h (fr_rt_bytes g) rfl hwX8 (by decide) (by decide +kernel) dX8_append_29 ?_
  refine lv_aload_n hx hb dX8_append_32 rfl (lv_at hl 1 rfl) ?_
  refine x_getI E h (fi_rt_length g) rfl hwX8 (by decide) (by decide +kernel) (v := 3) rfl dX8_append_33 ?_
  refine lv_lload_n hx hb dX8_append_36 rfl (lv_at hl 2 rfl) ?_
  refine lv_bipush (v := 8) hx hb dX8_append_37 (by decide) ?_
  refine lv_iload hx hb dX8_append_39 (lv_at hl 0 rfl) ?_
  refine lv_imul hx hb dX8_append_41 ?_
  refine x_topI (v2 := 0) (by decide) ?_
  refine lv_lushr hx hb dX8_append_42 rfl ?_
  refine lv_topl (fun y7 ey7 => ?_)
  refine lv_l2i hx hb dX8_append_43 rfl ?_
  refine lv_topi (fun x8 ex8 => ?_)
  refine lv_sipush (v := 255) hx hb dX8_append_44 (by decide) ?_
  refine lv_iand hx hb dX8_append_47 ?_
  refine x_stI E h (ia_rt_bytes g) (i := 3) (by unfold vp_in; decide) (j := (3)) rfl rfl dX8_append_48 (fun H locs h => ?_)
  refine lv_aload_n hx hb dX8_append_49 rfl (lv_at hl 1 rfl) ?_
  refine lv_dup hx hb dX8_append_50 rfl ?_
  refine x_getI E h (fi_rt_length g) rfl hwX8 (by decide) (by decide +kernel) (v := 3) rfl dX8_append_51 ?_
  refine lv_iconst (v := 1) hx hb dX8_append_54 (by decide) ?_
  refine lv_iadd hx hb dX8_append_55 ?_
  refine x_topI (v2 := 4) (by decide) ?_
  refine x_putI E h (ty := .int) (v := 4) (fi_rt_length g) rfl hwX8 tyX8_ok nmX8 (by decide) (by decide +kernel) (by decide +kernel) (by decide +kernel) rfl rfl dX8_append_56 (fun H locs h => ?_)
  refine lv_iinc (v := (-1)) (lv' := [(4, .int (-1)), (0, .ref (g.2.1 1)), (1, .long p1), (3, .int 4)]) hx hb dX8_append_59 hl (k := 0) rfl (by decide) (by decide) rfl (fun ls hl => ?_)
  refine lv_goto (tgt := 23) hx hb dX8_append_62 (by decide) ?_
  refine lv_iload hx hb dX8_append_23 (lv_at hl 0 rfl) ?_
  refine lv_if_lt (tgt := 65) hx hb dX8_append_25 (by decide) (fun _ => ?_) (fun c => absurd (by decide) c)
  refine lv_iconst (v := 1) hx hb dX8_append_65 (by decide) ?_
  exact x_zret E h rfl ⟨rfl, rfl, MO.refl σ⟩ dX8_append_66
set_option maxHeartbeats 4000000 in
set_option maxRecDepth 100000 in
theorem kX8_append_4 (l : Launch) (g : CX) (σ : ST) (p1 : Int64) (fI_0 : σ.1 0 = 0) : XM l g yX8_append wsX8_append { frames := 0, cells := 0, slots := 0, locals := 0 } [.ref (g.2.1 1), .long p1, .int 5] σ (XQi g (fun r σ' => r = 1 ∧ σ'.1 0 = 5 ∧ MO σ' σ)) := by
  refine x_met (own := RX8) (cc := cX8_append) (maxL := 5) (ret := (some .boolean)) (lv := [(0, .ref (g.2.1 1)), (1, .long p1), (3, .int 5)]) (by decide) rfl rfl (Nat.le_of_ble_eq_true rfl) rfl ?_
  intro p e s m args below meth c ls E h hl
  have hx := E.1
  have hb := E.2.1
  have hown := E.2.2.2.1
  have hts := E.2.2.2.2.1
  have hwX8 : ∀ w ∈ wsX80, w ∈ wsX8_append := by decide +kernel
  refine lv_iload_n hx hb dX8_append_0 rfl (lv_at hl 2 rfl) ?_
  refine lv_if_lt (tgt := 16) hx hb dX8_append_1 (by decide) (fun c => absurd c (by decide)) (fun _ => ?_)
  refine lv_iload_n hx hb dX8_append_4 rfl (lv_at hl 2 rfl) ?_
  refine lv_sipush (v := 200) hx hb dX8_append_5 (by decide) ?_
  refine lv_aload_n hx hb dX8_append_8 rfl (lv_at hl 0 rfl) ?_
  refine x_getI E h (fi_rt_length g) rfl hwX8 (by decide) (by decide +kernel) (v := 0) fI_0 dX8_append_9 ?_
  refine lv_isub hx hb dX8_append_12 ?_
  refine x_topI (v2 := 200) (by decide) ?_
  refine lv_icmp_le (tgt := 18) hx hb dX8_append_13 (by decide) (fun _ => ?_) (fun c => absurd (by decide) c)
  refine lv_iload_n hx hb dX8_append_18 rfl (lv_at hl 2 rfl) ?_
  refine lv_iconst (v := 1) hx hb dX8_append_19 (by decide) ?_
  refine lv_isub hx hb dX8_append_20 ?_
  refine x_topI (v2 := 4) (by decide) ?_
  refine lv_istore (lv' := [(4, .int 4), (0, .ref (g.2.1 1)), (1, .long p1), (3, .int 5)]) hx hb dX8_append_21 hl (by decide) rfl (fun ls hl => ?_)
  refine lv_iload hx hb dX8_append_23 (lv_at hl 0 rfl) ?_
  refine lv_if_lt (tgt := 65) hx hb dX8_append_25 (by decide) (fun c => absurd c (by decide)) (fun _ => ?_)
  refine lv_aload_n hx hb dX8_append_28 rfl (lv_at hl 1 rfl) ?_
  refine x_getR E h (fr_rt_bytes g) rfl hwX8 (by decide) (by decide +kernel) dX8_append_29 ?_
  refine lv_aload_n hx hb dX8_append_32 rfl (lv_at hl 1 rfl) ?_
  refine x_getI E h (fi_rt_length g) rfl hwX8 (by decide) (by decide +kernel) (v := 0) fI_0 dX8_append_33 ?_
  refine lv_lload_n hx hb dX8_append_36 rfl (lv_at hl 2 rfl) ?_
  refine lv_bipush (v := 8) hx hb dX8_append_37 (by decide) ?_
  refine lv_iload hx hb dX8_append_39 (lv_at hl 0 rfl) ?_
  refine lv_imul hx hb dX8_append_41 ?_
  refine x_topI (v2 := 32) (by decide) ?_
  refine lv_lushr hx hb dX8_append_42 rfl ?_
  refine lv_topl (fun y1 ey1 => ?_)
  refine lv_l2i hx hb dX8_append_43 rfl ?_
  refine lv_topi (fun x2 ex2 => ?_)
  refine lv_sipush (v := 255) hx hb dX8_append_44 (by decide) ?_
  refine lv_iand hx hb dX8_append_47 ?_
  refine x_stI E h (ia_rt_bytes g) (i := 0) (by unfold vp_in; decide) (j := (0)) rfl rfl dX8_append_48 (fun H locs h => ?_)
  refine lv_aload_n hx hb dX8_append_49 rfl (lv_at hl 1 rfl) ?_
  refine lv_dup hx hb dX8_append_50 rfl ?_
  refine x_getI E h (fi_rt_length g) rfl hwX8 (by decide) (by decide +kernel) (v := 0) fI_0 dX8_append_51 ?_
  refine lv_iconst (v := 1) hx hb dX8_append_54 (by decide) ?_
  refine lv_iadd hx hb dX8_append_55 ?_
  refine x_topI (v2 := 1) (by decide) ?_
  refine x_putI E h (ty := .int) (v := 1) (fi_rt_length g) rfl hwX8 tyX8_ok nmX8 (by decide) (by decide +kernel) (by decide +kernel) (by decide +kernel) rfl rfl dX8_append_56 (fun H locs h => ?_)
  refine lv_iinc (v := 3) (lv' := [(4, .int 3), (0, .ref (g.2.1 1)), (1, .long p1), (3, .int 5)]) hx hb dX8_append_59 hl (k := 0) rfl (by decide) (by decide) rfl (fun ls hl => ?_)
  refine lv_goto (tgt := 23) hx hb dX8_append_62 (by decide) ?_
  refine lv_iload hx hb dX8_append_23 (lv_at hl 0 rfl) ?_
  refine lv_if_lt (tgt := 65) hx hb dX8_append_25 (by decide) (fun c => absurd c (by decide)) (fun _ => ?_)
  refine lv_aload_n hx hb dX8_append_28 rfl (lv_at hl 1 rfl) ?_
  refine x_getR E h (fr_rt_bytes g) rfl hwX8 (by decide) (by decide +kernel) dX8_append_29 ?_
  refine lv_aload_n hx hb dX8_append_32 rfl (lv_at hl 1 rfl) ?_
  refine x_getI E h (fi_rt_length g) rfl hwX8 (by decide) (by decide +kernel) (v := 1) rfl dX8_append_33 ?_
  refine lv_lload_n hx hb dX8_append_36 rfl (lv_at hl 2 rfl) ?_
  refine lv_bipush (v := 8) hx hb dX8_append_37 (by decide) ?_
  refine lv_iload hx hb dX8_append_39 (lv_at hl 0 rfl) ?_
  refine lv_imul hx hb dX8_append_41 ?_
  refine x_topI (v2 := 24) (by decide) ?_
  refine lv_lushr hx hb dX8_append_42 rfl ?_
  refine lv_topl (fun y3 ey3 => ?_)
  refine lv_l2i hx hb dX8_append_43 rfl ?_
  refine lv_topi (fun x4 ex4 => ?_)
  refine lv_sipush (v := 255) hx hb dX8_append_44 (by decide) ?_
  refine lv_iand hx hb dX8_append_47 ?_
  refine x_stI E h (ia_rt_bytes g) (i := 1) (by unfold vp_in; decide) (j := (1)) rfl rfl dX8_append_48 (fun H locs h => ?_)
  refine lv_aload_n hx hb dX8_append_49 rfl (lv_at hl 1 rfl) ?_
  refine lv_dup hx hb dX8_append_50 rfl ?_
  refine x_getI E h (fi_rt_length g) rfl hwX8 (by decide) (by decide +kernel) (v := 1) rfl dX8_append_51 ?_
  refine lv_iconst (v := 1) hx hb dX8_append_54 (by decide) ?_
  refine lv_iadd hx hb dX8_append_55 ?_
  refine x_topI (v2 := 2) (by decide) ?_
  refine x_putI E h (ty := .int) (v := 2) (fi_rt_length g) rfl hwX8 tyX8_ok nmX8 (by decide) (by decide +kernel) (by decide +kernel) (by decide +kernel) rfl rfl dX8_append_56 (fun H locs h => ?_)
  refine lv_iinc (v := 2) (lv' := [(4, .int 2), (0, .ref (g.2.1 1)), (1, .long p1), (3, .int 5)]) hx hb dX8_append_59 hl (k := 0) rfl (by decide) (by decide) rfl (fun ls hl => ?_)
  refine lv_goto (tgt := 23) hx hb dX8_append_62 (by decide) ?_
  refine lv_iload hx hb dX8_append_23 (lv_at hl 0 rfl) ?_
  refine lv_if_lt (tgt := 65) hx hb dX8_append_25 (by decide) (fun c => absurd c (by decide)) (fun _ => ?_)
  refine lv_aload_n hx hb dX8_append_28 rfl (lv_at hl 1 rfl) ?_
  refine x_getR E h (fr_rt_bytes g) rfl hwX8 (by decide) (by decide +kernel) dX8_append_29 ?_
  refine lv_aload_n hx hb dX8_append_32 rfl (lv_at hl 1 rfl) ?_
  refine x_getI E h (fi_rt_length g) rfl hwX8 (by decide) (by decide +kernel) (v := 2) rfl dX8_append_33 ?_
  refine lv_lload_n hx hb dX8_append_36 rfl (lv_at hl 2 rfl) ?_
  refine lv_bipush (v := 8) hx hb dX8_append_37 (by decide) ?_
  refine lv_iload hx hb dX8_append_39 (lv_at hl 0 rfl) ?_
  refine lv_imul hx hb dX8_append_41 ?_
  refine x_topI (v2 := 16) (by decide) ?_
  refine lv_lushr hx hb dX8_append_42 rfl ?_
  refine lv_topl (fun y5 ey5 => ?_)
  refine lv_l2i hx hb dX8_append_43 rfl ?_
  refine lv_topi (fun x6 ex6 => ?_)
  refine lv_sipush (v := 255) hx hb dX8_append_44 (by decide) ?_
  refine lv_iand hx hb dX8_append_47 ?_
  refine x_stI E h (ia_rt_bytes g) (i := 2) (by unfold vp_in; decide) (j := (2)) rfl rfl dX8_append_48 (fun H locs h => ?_)
  refine lv_aload_n hx hb dX8_append_49 rfl (lv_at hl 1 rfl) ?_
  refine lv_dup hx hb dX8_append_50 rfl ?_
  refine x_getI E h (fi_rt_length g) rfl hwX8 (by decide) (by decide +kernel) (v := 2) rfl dX8_append_51 ?_
  refine lv_iconst (v := 1) hx hb dX8_append_54 (by decide) ?_
  refine lv_iadd hx hb dX8_append_55 ?_
  refine x_topI (v2 := 3) (by decide) ?_
  refine x_putI E h (ty := .int) (v := 3) (fi_rt_length g) rfl hwX8 tyX8_ok nmX8 (by decide) (by decide +kernel) (by decide +kernel) (by decide +kernel) rfl rfl dX8_append_56 (fun H locs h => ?_)
  refine lv_iinc (v := 1) (lv' := [(4, .int 1), (0, .ref (g.2.1 1)), (1, .long p1), (3, .int 5)]) hx hb dX8_append_59 hl (k := 0) rfl (by decide) (by decide) rfl (fun ls hl => ?_)
  refine lv_goto (tgt := 23) hx hb dX8_append_62 (by decide) ?_
  refine lv_iload hx hb dX8_append_23 (lv_at hl 0 rfl) ?_
  refine lv_if_lt (tgt := 65) hx hb dX8_append_25 (by decide) (fun c => absurd c (by decide)) (fun _ => ?_)
  refine lv_aload_n hx hb dX8_append_28 rfl (lv_at hl 1 rfl) ?_
  refine x_getR E h (fr_rt_bytes g) rfl hwX8 (by decide) (by decide +kernel) dX8_append_29 ?_
  refine lv_aload_n hx hb dX8_append_32 rfl (lv_at hl 1 rfl) ?_
  refine x_getI E h (fi_rt_length g) rfl hwX8 (by decide) (by decide +kernel) (v := 3) rfl dX8_append_33 ?_
  refine lv_lload_n hx hb dX8_append_36 rfl (lv_at hl 2 rfl) ?_
  refine lv_bipush (v := 8) hx hb dX8_append_37 (by decide) ?_
  refine lv_iload hx hb dX8_append_39 (lv_at hl 0 rfl) ?_
  refine lv_imul hx hb dX8_append_41 ?_
  refine x_topI (v2 := 8) (by decide) ?_
  refine lv_lushr hx hb dX8_append_42 rfl ?_
  refine lv_topl (fun y7 ey7 => ?_)
  refine lv_l2i hx hb dX8_append_43 rfl ?_
  refine lv_topi (fun x8 ex8 => ?_)
  refine lv_sipush (v := 255) hx hb dX8_append_44 (by decide) ?_
  refine lv_iand hx hb dX8_append_47 ?_
  refine x_stI E h (ia_rt_bytes g) (i := 3) (by unfold vp_in; decide) (j := (3)) rfl rfl dX8_append_48 (fun H locs h => ?_)
  refine lv_aload_n hx hb dX8_append_49 rfl (lv_at hl 1 rfl) ?_
  refine lv_dup hx hb dX8_append_50 rfl ?_
  refine x_getI E h (fi_rt_length g) rfl hwX8 (by decide) (by decide +kernel) (v := 3) rfl dX8_append_51 ?_
  refine lv_iconst (v := 1) hx hb dX8_append_54 (by decide) ?_
  refine lv_iadd hx hb dX8_append_55 ?_
  refine x_topI (v2 := 4) (by decide) ?_
  refine x_putI E h (ty := .int) (v := 4) (fi_rt_length g) rfl hwX8 tyX8_ok nmX8 (by decide) (by decide +kernel) (by decide +kernel) (by decide +kernel) rfl rfl dX8_append_56 (fun H locs h => ?_)
  refine lv_iinc (v := 0) (lv' := [(4, .int 0), (0, .ref (g.2.1 1)), (1, .long p1), (3, .int 5)]) hx hb dX8_append_59 hl (k := 0) rfl (by decide) (by decide) rfl (fun ls hl => ?_)
  refine lv_goto (tgt := 23) hx hb dX8_append_62 (by decide) ?_
  refine lv_iload hx hb dX8_append_23 (lv_at hl 0 rfl) ?_
  refine lv_if_lt (tgt := 65) hx hb dX8_append_25 (by decide) (fun c => absurd c (by decide)) (fun _ => ?_)
  refine lv_aload_n hx hb dX8_append_28 rfl (lv_at hl 1 rfl) ?_
  refine x_getR E h (fr_rt_bytes g) rfl hwX8 (by decide) (by decide +kernel) dX8_append_29 ?_
  refine lv_aload_n hx hb dX8_append_32 rfl (lv_at hl 1 rfl) ?_
  refine x_getI E h (fi_rt_length g) rfl hwX8 (by decide) (by decide +kernel) (v := 4) rfl dX8_append_33 ?_
  refine lv_lload_n hx hb dX8_append_36 rfl (lv_at hl 2 rfl) ?_
  refine lv_bipush (v := 8) hx hb dX8_append_37 (by decide) ?_
  refine lv_iload hx hb dX8_append_39 (lv_at hl 0 rfl) ?_
  refine lv_imul hx hb dX8_append_41 ?_
  refine x_topI (v2 := 0) (by decide) ?_
  refine lv_lushr hx hb dX8_append_42 rfl ?_
  refine lv_topl (fun y9 ey9 => ?_)
  refine lv_l2i hx hb dX8_append_43 rfl ?_
  refine lv_topi (fun x10 ex10 => ?_)
  refine lv_sipush (v := 255) hx hb dX8_append_44 (by decide) ?_
  refine lv_iand hx hb dX8_append_47 ?_
  refine x_stI E h (ia_rt_bytes g) (i := 4) (by unfold vp_in; decide) (j := (4)) rfl rfl dX8_append_48 (fun H locs h => ?_)
  refine lv_aload_n hx hb dX8_append_49 rfl (lv_at hl 1 rfl) ?_
  refine lv_dup hx hb dX8_append_50 rfl ?_
  refine x_getI E h (fi_rt_length g) rfl hwX8 (by decide) (by decide +kernel) (v := 4) rfl dX8_append_51 ?_
  refine lv_iconst (v := 1) hx hb dX8_append_54 (by decide) ?_
  refine lv_iadd hx hb dX8_append_55 ?_
  refine x_topI (v2 := 5) (by decide) ?_
  refine x_putI E h (ty := .int) (v := 5) (fi_rt_length g) rfl hwX8 tyX8_ok nmX8 (by decide) (by decide +kernel) (by decide +kernel) (by decide +kernel) rfl rfl dX8_append_56 (fun H locs h => ?_)
  refine lv_iinc (v := (-1)) (lv' := [(4, .int (-1)), (0, .ref (g.2.1 1)), (1, .long p1), (3, .int 5)]) hx hb dX8_append_59 hl (k := 0) rfl (by decide) (by decide) rfl (fun ls hl => ?_)
  refine lv_goto (tgt := 23) hx hb dX8_append_62 (by decide) ?_
  refine lv_iload hx hb dX8_append_23 (lv_at hl 0 rfl) ?_
  refine lv_if_lt (tgt := 65) hx hb dX8_append_25 (by decide) (fun _ => ?_) (fun c => absurd (by decide) c)
  refine lv_iconst (v := 1) hx hb dX8_append_65 (by decide) ?_
  exact x_zret E h rfl ⟨rfl, rfl, MO.refl σ⟩ dX8_append_66
set_option maxHeartbeats 4000000 in
set_option maxRecDepth 100000 in
theorem kX8_append_5 (l : Launch) (g : CX) (σ : ST) (p1 : Int64) (fI_0 : σ.1 0 = 0) : XM l g yX8_append wsX8_append { frames := 0, cells := 0, slots := 0, locals := 0 } [.ref (g.2.1 1), .long p1, .int 6] σ (XQi g (fun r σ' => r = 1 ∧ σ'.1 0 = 6 ∧ MO σ' σ)) := by
  refine x_met (own := RX8) (cc := cX8_append) (maxL := 5) (ret := (some .boolean)) (lv := [(0, .ref (g.2.1 1)), (1, .long p1), (3, .int 6)]) (by decide) rfl rfl (Nat.le_of_ble_eq_true rfl) rfl ?_
  intro p e s m args below meth c ls E h hl
  have hx := E.1
  have hb := E.2.1
  have hown := E.2.2.2.1
  have hts := E.2.2.2.2.1
  have hwX8 : ∀ w ∈ wsX80, w ∈ wsX8_append := by decide +kernel
  refine lv_iload_n hx hb dX8_append_0 rfl (lv_at hl 2 rfl) ?_
  refine lv_if_lt (tgt := 16) hx hb dX8_append_1 (by decide) (fun c => absurd c (by decide)) (fun _ => ?_)
  refine lv_iload_n hx hb dX8_append_4 rfl (lv_at hl 2 rfl) ?_
  refine lv_sipush (v := 200) hx hb dX8_append_5 (by decide) ?_
  refine lv_aload_n hx hb dX8_append_8 rfl (lv_at hl 0 rfl) ?_
  refine x_getI E h (fi_rt_length g) rfl hwX8 (by decide) (by decide +kernel) (v := 0) fI_0 dX8_append_9 ?_
  refine lv_isub hx hb dX8_append_12 ?_
  refine x_topI (v2 := 200) (by decide) ?_
  refine lv_icmp_le (tgt := 18) hx hb dX8_append_13 (by decide) (fun _ => ?_) (fun c => absurd (by decide) c)
  refine lv_iload_n hx hb dX8_append_18 rfl (lv_at hl 2 rfl) ?_
  refine lv_iconst (v := 1) hx hb dX8_append_19 (by decide) ?_
  refine lv_isub hx hb dX8_append_20 ?_
  refine x_topI (v2 := 5) (by decide) ?_
  refine lv_istore (lv' := [(4, .int 5), (0, .ref (g.2.1 1)), (1, .long p1), (3, .int 6)]) hx hb dX8_append_21 hl (by decide) rfl (fun ls hl => ?_)
  refine lv_iload hx hb dX8_append_23 (lv_at hl 0 rfl) ?_
  refine lv_if_lt (tgt := 65) hx hb dX8_append_25 (by decide) (fun c => absurd c (by decide)) (fun _ => ?_)
  refine lv_aload_n hx hb dX8_append_28 rfl (lv_at hl 1 rfl) ?_
  refine x_getR E h (fr_rt_bytes g) rfl hwX8 (by decide) (by decide +kernel) dX8_append_29 ?_
  refine lv_aload_n hx hb dX8_append_32 rfl (lv_at hl 1 rfl) ?_
  refine x_getI E h (fi_rt_length g) rfl hwX8 (by decide) (by decide +kernel) (v := 0) fI_0 dX8_append_33 ?_
  refine lv_lload_n hx hb dX8_append_36 rfl (lv_at hl 2 rfl) ?_
  refine lv_bipush (v := 8) hx hb dX8_append_37 (by decide) ?_
  refine lv_iload hx hb dX8_append_39 (lv_at hl 0 rfl) ?_
  refine lv_imul hx hb dX8_append_41 ?_
  refine x_topI (v2 := 40) (by decide) ?_
  refine lv_lushr hx hb dX8_append_42 rfl ?_
  refine lv_topl (fun y1 ey1 => ?_)
  refine lv_l2i hx hb dX8_append_43 rfl ?_
  refine lv_topi (fun x2 ex2 => ?_)
  refine lv_sipush (v := 255) hx hb dX8_append_44 (by decide) ?_
  refine lv_iand hx hb dX8_append_47 ?_
  refine x_stI E h (ia_rt_bytes g) (i := 0) (by unfold vp_in; decide) (j := (0)) rfl rfl dX8_append_48 (fun H locs h => ?_)
  refine lv_aload_n hx hb dX8_append_49 rfl (lv_at hl 1 rfl) ?_
  refine lv_dup hx hb dX8_append_50 rfl ?_
  refine x_getI E h (fi_rt_length g) rfl hwX8 (by decide) (by decide +kernel) (v := 0) fI_0 dX8_append_51 ?_
  refine lv_iconst (v := 1) hx hb dX8_append_54 (by decide) ?_
  refine lv_iadd hx hb dX8_append_55 ?_
  refine x_topI (v2 := 1) (by decide) ?_
  refine x_putI E h (ty := .int) (v := 1) (fi_rt_length g) rfl hwX8 tyX8_ok nmX8 (by decide) (by decide +kernel) (by decide +kernel) (by decide +kernel) rfl rfl dX8_append_56 (fun H locs h => ?_)
  refine lv_iinc (v := 4) (lv' := [(4, .int 4), (0, .ref (g.2.1 1)), (1, .long p1), (3, .int 6)]) hx hb dX8_append_59 hl (k := 0) rfl (by decide) (by decide) rfl (fun ls hl => ?_)
  refine lv_goto (tgt := 23) hx hb dX8_append_62 (by decide) ?_
  refine lv_iload hx hb dX8_append_23 (lv_at hl 0 rfl) ?_
  refine lv_if_lt (tgt := 65) hx hb dX8_append_25 (by decide) (fun c => absurd c (by decide)) (fun _ => ?_)
  refine lv_aload_n hx hb dX8_append_28 rfl (lv_at hl 1 rfl) ?_
  refine x_getR E h (fr_rt_bytes g) rfl hwX8 (by decide) (by decide +kernel) dX8_append_29 ?_
  refine lv_aload_n hx hb dX8_append_32 rfl (lv_at hl 1 rfl) ?_
  refine x_getI E h (fi_rt_length g) rfl hwX8 (by decide) (by decide +kernel) (v := 1) rfl dX8_append_33 ?_
  refine lv_lload_n hx hb dX8_append_36 rfl (lv_at hl 2 rfl) ?_
  refine lv_bipush (v := 8) hx hb dX8_append_37 (by decide) ?_
  refine lv_iload hx hb dX8_append_39 (lv_at hl 0 rfl) ?_
  refine lv_imul hx hb dX8_append_41 ?_
  refine x_topI (v2 := 32) (by decide) ?_
  refine lv_lushr hx hb dX8_append_42 rfl ?_
  refine lv_topl (fun y3 ey3 => ?_)
  refine lv_l2i hx hb dX8_append_43 rfl ?_
  refine lv_topi (fun x4 ex4 => ?_)
  refine lv_sipush (v := 255) hx hb dX8_append_44 (by decide) ?_
  refine lv_iand hx hb dX8_append_47 ?_
  refine x_stI E h (ia_rt_bytes g) (i := 1) (by unfold vp_in; decide) (j := (1)) rfl rfl dX8_append_48 (fun H locs h => ?_)
  refine lv_aload_n hx hb dX8_append_49 rfl (lv_at hl 1 rfl) ?_
  refine lv_dup hx hb dX8_append_50 rfl ?_
  refine x_getI E h (fi_rt_length g) rfl hwX8 (by decide) (by decide +kernel) (v := 1) rfl dX8_append_51 ?_
  refine lv_iconst (v := 1) hx hb dX8_append_54 (by decide) ?_
  refine lv_iadd hx hb dX8_append_55 ?_
  refine x_topI (v2 := 2) (by decide) ?_
  refine x_putI E h (ty := .int) (v := 2) (fi_rt_length g) rfl hwX8 tyX8_ok nmX8 (by decide) (by decide +kernel) (by decide +kernel) (by decide +kernel) rfl rfl dX8_append_56 (fun H locs h => ?_)
  refine lv_iinc (v := 3) (lv' := [(4, .int 3), (0, .ref (g.2.1 1)), (1, .long p1), (3, .int 6)]) hx hb dX8_append_59 hl (k := 0) rfl (by decide) (by decide) rfl (fun ls hl => ?_)
  refine lv_goto (tgt := 23) hx hb dX8_append_62 (by decide) ?_
  refine lv_iload hx hb dX8_append_23 (lv_at hl 0 rfl) ?_
  refine lv_if_lt (tgt := 65) hx hb dX8_append_25 (by decide) (fun c => absurd c (by decide)) (fun _ => ?_)
  refine lv_aload_n hx hb dX8_append_28 rfl (lv_at hl 1 rfl) ?_
  refine x_getR E h (fr_rt_bytes g) rfl hwX8 (by decide) (by decide +kernel) dX8_append_29 ?_
  refine lv_aload_n hx hb dX8_append_32 rfl (lv_at hl 1 rfl) ?_
  refine x_getI E h (fi_rt_length g) rfl hwX8 (by decide) (by decide +kernel) (v := 2) rfl dX8_append_33 ?_
  refine lv_lload_n hx hb dX8_append_36 rfl (lv_at hl 2 rfl) ?_
  refine lv_bipush (v := 8) hx hb dX8_append_37 (by decide) ?_
  refine lv_iload hx hb dX8_append_39 (lv_at hl 0 rfl) ?_
  refine lv_imul hx hb dX8_append_41 ?_
  refine x_topI (v2 := 24) (by decide) ?_
  refine lv_lushr hx hb dX8_append_42 rfl ?_
  refine lv_topl (fun y5 ey5 => ?_)
  refine lv_l2i hx hb dX8_append_43 rfl ?_
  refine lv_topi (fun x6 ex6 => ?_)
  refine lv_sipush (v := 255) hx hb dX8_append_44 (by decide) ?_
  refine lv_iand hx hb dX8_append_47 ?_
  refine x_stI E h (ia_rt_bytes g) (i := 2) (by unfold vp_in; decide) (j := (2)) rfl rfl dX8_append_48 (fun H locs h => ?_)
  refine lv_aload_n hx hb dX8_append_49 rfl (lv_at hl 1 rfl) ?_
  refine lv_dup hx hb dX8_append_50 rfl ?_
  refine x_getI E h (fi_rt_length g) rfl hwX8 (by decide) (by decide +kernel) (v := 2) rfl dX8_append_51 ?_
  refine lv_iconst (v := 1) hx hb dX8_append_54 (by decide) ?_
  refine lv_iadd hx hb dX8_append_55 ?_
  refine x_topI (v2 := 3) (by decide) ?_
  refine x_putI E h (ty := .int) (v := 3) (fi_rt_length g) rfl hwX8 tyX8_ok nmX8 (by decide) (by decide +kernel) (by decide +kernel) (by decide +kernel) rfl rfl dX8_append_56 (fun H locs h => ?_)
  refine lv_iinc (v := 2) (lv' := [(4, .int 2), (0, .ref (g.2.1 1)), (1, .long p1), (3, .int 6)]) hx hb dX8_append_59 hl (k := 0) rfl (by decide) (by decide) rfl (fun ls hl => ?_)
  refine lv_goto (tgt := 23) hx hb dX8_append_62 (by decide) ?_
  refine lv_iload hx hb dX8_append_23 (lv_at hl 0 rfl) ?_
  refine lv_if_lt (tgt := 65) hx hb dX8_append_25 (by decide) (fun c => absurd c (by decide)) (fun _ => ?_)
  refine lv_aload_n hx hb dX8_append_28 rfl (lv_at hl 1 rfl) ?_
  refine x_getR E h (fr_rt_bytes g) rfl hwX8 (by decide) (by decide +kernel) dX8_append_29 ?_
  refine lv_aload_n hx hb dX8_append_32 rfl (lv_at hl 1 rfl) ?_
  refine x_getI E h (fi_rt_length g) rfl hwX8 (by decide) (by decide +kernel) (v := 3) rfl dX8_append_33 ?_
  refine lv_lload_n hx hb dX8_append_36 rfl (lv_at hl 2 rfl) ?_
  refine lv_bipush (v := 8) hx hb dX8_append_37 (by decide) ?_
  refine lv_iload hx hb dX8_append_39 (lv_at hl 0 rfl) ?_
  refine lv_imul hx hb dX8_append_41 ?_
  refine x_topI (v2 := 16) (by decide) ?_
  refine lv_lushr hx hb dX8_append_42 rfl ?_
  refine lv_topl (fun y7 ey7 => ?_)
  refine lv_l2i hx hb dX8_append_43 rfl ?_
  refine lv_topi (fun x8 ex8 => ?_)
  refine lv_sipush (v := 255) hx hb dX8_append_44 (by decide) ?_
  refine lv_iand hx hb dX8_append_47 ?_
  refine x_stI E h (ia_rt_bytes g) (i := 3) (by unfold vp_in; decide) (j := (3)) rfl rfl dX8_append_48 (fun H locs h => ?_)
  refine lv_aload_n hx hb dX8_append_49 rfl (lv_at hl 1 rfl) ?_
  refine lv_dup hx hb dX8_append_50 rfl ?_
  refine x_getI E h (fi_rt_length g) rfl hwX8 (by decide) (by decide +kernel) (v := 3) rfl dX8_append_51 ?_
  refine lv_iconst (v := 1) hx hb dX8_append_54 (by decide) ?_
  refine lv_iadd hx hb dX8_append_55 ?_
  refine x_topI (v2 := 4) (by decide) ?_
  refine x_putI E h (ty := .int) (v := 4) (fi_rt_length g) rfl hwX8 tyX8_ok nmX8 (by decide) (by decide +kernel) (by decide +kernel) (by decide +kernel) rfl rfl dX8_append_56 (fun H locs h => ?_)
  refine lv_iinc (v := 1) (lv' := [(4, .int 1), (0, .ref (g.2.1 1)), (1, .long p1), (3, .int 6)]) hx hb dX8_append_59 hl (k := 0) rfl (by decide) (by decide) rfl (fun ls hl => ?_)
  refine lv_goto (tgt := 23) hx hb dX8_append_62 (by decide) ?_
  refine lv_iload hx hb dX8_append_23 (lv_at hl 0 rfl) ?_
  refine lv_if_lt (tgt := 65) hx hb dX8_append_25 (by decide) (fun c => absurd c (by decide)) (fun _ => ?_)
  refine lv_aload_n hx hb dX8_append_28 rfl (lv_at hl 1 rfl) ?_
  refine x_getR E h (fr_rt_bytes g) rfl hwX8 (by decide) (by decide +kernel) dX8_append_29 ?_
  refine lv_aload_n hx hb dX8_append_32 rfl (lv_at hl 1 rfl) ?_
  refine x_getI E h (fi_rt_length g) rfl hwX8 (by decide) (by decide +kernel) (v := 4) rfl dX8_append_33 ?_
  refine lv_lload_n hx hb dX8_append_36 rfl (lv_at hl 2 rfl) ?_
  refine lv_bipush (v := 8) hx hb dX8_append_37 (by decide) ?_
  refine lv_iload hx hb dX8_append_39 (lv_at hl 0 rfl) ?_
  refine lv_imul hx hb dX8_append_41 ?_
  refine x_topI (v2 := 8) (by decide) ?_
  refine lv_lushr hx hb dX8_append_42 rfl ?_
  refine lv_topl (fun y9 ey9 => ?_)
  refine lv_l2i hx hb dX8_append_43 rfl ?_
  refine lv_topi (fun x10 ex10 => ?_)
  refine lv_sipush (v := 255) hx hb dX8_append_44 (by decide) ?_
  refine lv_iand hx hb dX8_append_47 ?_
  refine x_stI E h (ia_rt_bytes g) (i := 4) (by unfold vp_in; decide) (j := (4)) rfl rfl dX8_append_48 (fun H locs h => ?_)
  refine lv_aload_n hx hb dX8_append_49 rfl (lv_at hl 1 rfl) ?_
  refine lv_dup hx hb dX8_append_50 rfl ?_
  refine x_getI E h (fi_rt_length g) rfl hwX8 (by decide) (by decide +kernel) (v := 4) rfl dX8_append_51 ?_
  refine lv_iconst (v := 1) hx hb dX8_append_54 (by decide) ?_
  refine lv_iadd hx hb dX8_append_55 ?_
  refine x_topI (v2 := 5) (by decide) ?_
  refine x_putI E h (ty := .int) (v := 5) (fi_rt_length g) rfl hwX8 tyX8_ok nmX8 (by decide) (by decide +kernel) (by decide +kernel) (by decide +kernel) rfl rfl dX8_append_56 (fun H locs h => ?_)
  refine lv_iinc (v := 0) (lv' := [(4, .int 0), (0, .ref (g.2.1 1)), (1, .long p1), (3, .int 6)]) hx hb dX8_append_59 hl (k := 0) rfl (by decide) (by decide) rfl (fun ls hl => ?_)
  refine lv_goto (tgt := 23) hx hb dX8_append_62 (by decide) ?_
  refine lv_iload hx hb dX8_append_23 (lv_at hl 0 rfl) ?_
  refine lv_if_lt (tgt := 65) hx hb dX8_append_25 (by decide) (fun c => absurd c (by decide)) (fun _ => ?_)
  refine lv_aload_n hx hb dX8_append_28 rfl (lv_at hl 1 rfl) ?_
  refine x_getR E h (fr_rt_bytes g) rfl hwX8 (by decide) (by decide +kernel) dX8_append_29 ?_
  refine lv_aload_n hx hb dX8_append_32 rfl (lv_at hl 1 rfl) ?_
  refine x_getI E h (fi_rt_length g) rfl hwX8 (by decide) (by decide +kernel) (v := 5) rfl dX8_append_33 ?_
  refine lv_lload_n hx hb dX8_append_36 rfl (lv_at hl 2 rfl) ?_
  refine lv_bipush (v := 8) hx hb dX8_append_37 (by decide) ?_
  refine lv_iload hx hb dX8_append_39 (lv_at hl 0 rfl) ?_
  refine lv_imul hx hb dX8_append_41 ?_
  refine x_topI (v2 := 0) (by decide) ?_
  refine lv_lushr hx hb dX8_append_42 rfl ?_
  refine lv_topl (fun y11 ey11 => ?_)
  refine lv_l2i hx hb dX8_append_43 rfl ?_
  refine lv_topi (fun x12 ex12 => ?_)
  refine lv_sipush (v := 255) hx hb dX8_append_44 (by decide) ?_
  refine lv_iand hx hb dX8_append_47 ?_
  refine x_stI E h (ia_rt_bytes g) (i := 5) (by unfold vp_in; decide) (j := (5)) rfl rfl dX8_append_48 (fun H locs h => ?_)
  refine lv_aload_n hx hb dX8_append_49 rfl (lv_at hl 1 rfl) ?_
  refine lv_dup hx hb dX8_append_50 rfl ?_
  refine x_getI E h (fi_rt_length g) rfl hwX8 (by decide) (by decide +kernel) (v := 5) rfl dX8_append_51 ?_
  refine lv_iconst (v := 1) hx hb dX8_append_54 (by decide) ?_
  refine lv_iadd hx hb dX8_append_55 ?_
  refine x_topI (v2 := 6) (by decide) ?_
  refine x_putI E h (ty := .int) (v := 6) (fi_rt_length g) rfl hwX8 tyX8_ok nmX8 (by decide) (by decide +kernel) (by decide +kernel) (by decide +kernel) rfl rfl dX8_append_56 (fun H locs h => ?_)
  refine lv_iinc (v := (-1)) (lv' := [(4, .int (-1)), (0, .ref (g.2.1 1)), (1, .long p1), (3, .int 6)]) hx hb dX8_append_59 hl (k := 0) rfl (by decide) (by decide) rfl (fun ls hl => ?_)
  refine lv_goto (tgt := 23) hx hb dX8_append_62 (by decide) ?_
  refine lv_iload hx hb dX8_append_23 (lv_at hl 0 rfl) ?_
  refine lv_if_lt (tgt := 65) hx hb dX8_append_25 (by decide) (fun _ => ?_) (fun c => absurd (by decide) c)
  refine lv_iconst (v := 1) hx hb dX8_append_65 (by decide) ?_
  exact x_zret E h rfl ⟨rfl, rfl, MO.refl σ⟩ dX8_append_66
set_option maxHeartbeats 4000000 in
set_option maxRecDepth 100000 in
theorem kX8_append_6 (l : Launch) (g : CX) (σ : ST) (p1 : Int64) (fI_0 : σ.1 0 = 0) : XM l g yX8_append wsX8_append { frames := 0, cells := 0, slots := 0, locals := 0 } [.ref (g.2.1 1), .long p1, .int 7] σ (XQi g (fun r σ' => r = 1 ∧ σ'.1 0 = 7 ∧ MO σ' σ)) := by
  refine x_met (own := RX8) (cc := cX8_append) (maxL := 5) (ret := (some .boolean)) (lv := [(0, .ref (g.2.1 1)), (1, .long p1), (3, .int 7)]) (by decide) rfl rfl (Nat.le_of_ble_eq_true rfl) rfl ?_
  intro p e s m args below meth c ls E h hl
  have hx := E.1
  have hb := E.2.1
  have hown := E.2.2.2.1
  have hts := E.2.2.2.2.1
  have hwX8 : ∀ w ∈ wsX80, w ∈ wsX8_append := by decide +kernel
  refine lv_iload_n hx hb dX8_append_0 rfl (lv_at hl 2 rfl) ?_
  refine lv_if_lt (tgt := 16) hx hb dX8_append_1 (by decide) (fun c => absurd c (by decide)) (fun _ => ?_)
  refine lv_iload_n hx hb dX8_append_4 rfl (lv_at hl 2 rfl) ?_
  refine lv_sipush (v := 200) hx hb dX8_append_5 (by decide) ?_
  refine lv_aload_n hx hb dX8_append_8 rfl (lv_at hl 0 rfl) ?_
  refine x_getI E h (fi_rt_length g) rfl hwX8 (by decide) (by decide +kernel) (v := 0) fI_0 dX8_append_9 ?_
  refine lv_isub hx hb dX8_append_12 ?_
  refine x_topI (v2 := 200) (by decide) ?_
  refine lv_icmp_le (tgt := 18) hx hb dX8_append_13 (by decide) (fun _ => ?_) (fun c => absurd (by decide) c)
  refine lv_iload_n hx hb dX8_append_18 rfl (lv_at hl 2 rfl) ?_
  refine lv_iconst (v := 1) hx hb dX8_append_19 (by decide) ?_
  refine lv_isub hx hb dX8_append_20 ?_
  refine x_topI (v2 := 6) (by decide) ?_
  refine lv_istore (lv' := [(4, .int 6), (0, .ref (g.2.1 1)), (1, .long p1), (3, .int 7)]) hx hb dX8_append_21 hl (by decide) rfl (fun ls hl => ?_)
  refine lv_iload hx hb dX8_append_23 (lv_at hl 0 rfl) ?_
  refine lv_if_lt (tgt := 65) hx hb dX8_append_25 (by decide) (fun c => absurd c (by decide)) (fun _ => ?_)
  refine lv_aload_n hx hb dX8_append_28 rfl (lv_at hl 1 rfl) ?_
  refine x_getR E h (fr_rt_bytes g) rfl hwX8 (by decide) (by decide +kernel) dX8_append_29 ?_
  refine lv_aload_n hx hb dX8_append_32 rfl (lv_at hl 1 rfl) ?_
  refine x_getI E h (fi_rt_length g) rfl hwX8 (by decide) (by decide +kernel) (v := 0) fI_0 dX8_append_33 ?_
  refine lv_lload_n hx hb dX8_append_36 rfl (lv_at hl 2 rfl) ?_
  refine lv_bipush (v := 8) hx hb dX8_append_37 (by decide) ?_
  refine lv_iload hx hb dX8_append_39 (lv_at hl 0 rfl) ?_
  refine lv_imul hx hb dX8_append_41 ?_
  refine x_topI (v2 := 48) (by decide) ?_
  refine lv_lushr hx hb dX8_append_42 rfl ?_
  refine lv_topl (fun y1 ey1 => ?_)
  refine lv_l2i hx hb dX8_append_43 rfl ?_
  refine lv_topi (fun x2 ex2 => ?_)
  refine lv_sipush (v := 255) hx hb dX8_append_44 (by decide) ?_
  refine lv_iand hx hb dX8_append_47 ?_
  refine x_stI E h (ia_rt_bytes g) (i := 0) (by unfold vp_in; decide) (j := (0)) rfl rfl dX8_append_48 (fun H locs h => ?_)
  refine lv_aload_n hx hb dX8_append_49 rfl (lv_at hl 1 rfl) ?_
  refine lv_dup hx hb dX8_append_50 rfl ?_
  refine x_getI E h (fi_rt_length g) rfl hwX8 (by decide) (by decide +kernel) (v := 0) fI_0 dX8_append_51 ?_
  refine lv_iconst (v := 1) hx hb dX8_append_54 (by decide) ?_
  refine lv_iadd hx hb dX8_append_55 ?_
  refine x_topI (v2 := 1) (by decide) ?_
  refine x_putI E h (ty := .int) (v := 1) (fi_rt_length g) rfl hwX8 tyX8_ok nmX8 (by decide) (by decide +kernel) (by decide +kernel) (by decide +kernel) rfl rfl dX8_append_56 (fun H locs h => ?_)
  refine lv_iinc (v := 5) (lv' := [(4, .int 5), (0, .ref (g.2.1 1)), (1, .long p1), (3, .int 7)]) hx hb dX8_append_59 hl (k := 0) rfl (by decide) (by decide) rfl (fun ls hl => ?_)
  refine lv_goto (tgt := 23) hx hb dX8_append_62 (by decide) ?_
  refine lv_iload hx hb dX8_append_23 (lv_at hl 0 rfl) ?_
  refine lv_if_lt (tgt := 65) hx hb dX8_append_25 (by decide) (fun c => absurd c (by decide)) (fun _ => ?_)
  refine lv_aload_n hx hb dX8_append_28 rfl (lv_at hl 1 rfl) ?_
  refine x_getR E h (fr_rt_bytes g) rfl hwX8 (by decide) (by decide +kernel) dX8_append_29 ?_
  refine lv_aload_n hx hb dX8_append_32 rfl (lv_at hl 1 rfl) ?_
  refine x_getI E h (fi_rt_length g) rfl hwX8 (by decide) (by decide +kernel) (v := 1) rfl dX8_append_33 ?_
  refine lv_lload_n hx hb dX8_append_36 rfl (lv_at hl 2 rfl) ?_
  refine lv_bipush (v := 8) hx hb dX8_append_37 (by decide) ?_
  refine lv_iload hx hb dX8_append_39 (lv_at hl 0 rfl) ?_
  refine lv_imul hx hb dX8_append_41 ?_
  refine x_topI (v2 := 40) (by decide) ?_
  refine lv_lushr hx hb dX8_append_42 rfl ?_
  refine lv_topl (fun y3 ey3 => ?_)
  refine lv_l2i hx hb dX8_append_43 rfl ?_
  refine lv_topi (fun x4 ex4 => ?_)
  refine lv_sipush (v := 255) hx hb dX8_append_44 (by decide) ?_
  refine lv_iand hx hb dX8_append_47 ?_
  refine x_stI E h (ia_rt_bytes g) (i := 1) (by unfold vp_in; decide) (j := (1)) rfl rfl dX8_append_48 (fun H locs h => ?_)
  refine lv_aload_n hx hb dX8_append_49 rfl (lv_at hl 1 rfl) ?_
  refine lv_dup hx hb dX8_append_50 rfl ?_
  refine x_getI E h (fi_rt_length g) rfl hwX8 (by decide) (by decide +kernel) (v := 1) rfl dX8_append_51 ?_
  refine lv_iconst (v := 1) hx hb dX8_append_54 (by decide) ?_
  refine lv_iadd hx hb dX8_append_55 ?_
  refine x_topI (v2 := 2) (by decide) ?_
  refine x_putI E h (ty := .int) (v := 2) (fi_rt_length g) rfl hwX8 tyX8_ok nmX8 (by decide) (by decide +kernel) (by decide +kernel) (by decide +kernel) rfl rfl dX8_append_56 (fun H locs h => ?_)
  refine lv_iinc (v := 4) (lv' := [(4, .int 4), (0, .ref (g.2.1 1)), (1, .long p1), (3, .int 7)]) hx hb dX8_append_59 hl (k := 0) rfl (by decide) (by decide) rfl (fun ls hl => ?_)
  refine lv_goto (tgt := 23) hx hb dX8_append_62 (by decide) ?_
  refine lv_iload hx hb dX8_append_23 (lv_at hl 0 rfl) ?_
  refine lv_if_lt (tgt := 65) hx hb dX8_append_25 (by decide) (fun c => absurd c (by decide)) (fun _ => ?_)
  refine lv_aload_n hx hb dX8_append_28 rfl (lv_at hl 1 rfl) ?_
  refine x_getR E h (fr_rt_bytes g) rfl hwX8 (by decide) (by decide +kernel) dX8_append_29 ?_
  refine lv_aload_n hx hb dX8_append_32 rfl (lv_at hl 1 rfl) ?_
  refine x_getI E h (fi_rt_length g) rfl hwX8 (by decide) (by decide +kernel) (v := 2) rfl dX8_append_33 ?_
  refine lv_lload_n hx hb dX8_append_36 rfl (lv_at hl 2 rfl) ?_
  refine lv_bipush (v := 8) hx hb dX8_append_37 (by decide) ?_
  refine lv_iload hx hb dX8_append_39 (lv_at hl 0 rfl) ?_
  refine lv_imul hx hb dX8_append_41 ?_
  refine x_topI (v2 := 32) (by decide) ?_
  refine lv_lushr hx hb dX8_append_42 rfl ?_
  refine lv_topl (fun y5 ey5 => ?_)
  refine lv_l2i hx hb dX8_append_43 rfl ?_
  refine lv_topi (fun x6 ex6 => ?_)
  refine lv_sipush (v := 255) hx hb dX8_append_44 (by decide) ?_
  refine lv_iand hx hb dX8_append_47 ?_
  refine x_stI E h (ia_rt_bytes g) (i := 2) (by unfold vp_in; decide) (j := (2)) rfl rfl dX8_append_48 (fun H locs h => ?_)
  refine lv_aload_n hx hb dX8_append_49 rfl (lv_at hl 1 rfl) ?_
  refine lv_dup hx hb dX8_append_50 rfl ?_
  refine x_getI E h (fi_rt_length g) rfl hwX8 (by decide) (by decide +kernel) (v := 2) rfl dX8_append_51 ?_
  refine lv_iconst (v := 1) hx hb dX8_append_54 (by decide) ?_
  refine lv_iadd hx hb dX8_append_55 ?_
  refine x_topI (v2 := 3) (by decide) ?_
  refine x_putI E h (ty := .int) (v := 3) (fi_rt_length g) rfl hwX8 tyX8_ok nmX8 (by decide) (by decide +kernel) (by decide +kernel) (by decide +kernel) rfl rfl dX8_append_56 (fun H locs h => ?_)
  refine lv_iinc (v := 3) (lv' := [(4, .int 3), (0, .ref (g.2.1 1)), (1, .long p1), (3, .int 7)]) hx hb dX8_append_59 hl (k := 0) rfl (by decide) (by decide) rfl (fun ls hl => ?_)
  refine lv_goto (tgt := 23) hx hb dX8_append_62 (by decide) ?_
  refine lv_iload hx hb dX8_append_23 (lv_at hl 0 rfl) ?_
  refine lv_if_lt (tgt := 65) hx hb dX8_append_25 (by decide) (fun c => absurd c (by decide)) (fun _ => ?_)
  refine lv_aload_n hx hb dX8_append_28 rfl (lv_at hl 1 rfl) ?_
  refine x_getR E h (fr_rt_bytes g) rfl hwX8 (by decide) (by decide +kernel) dX8_append_29 ?_
  refine lv_aload_n hx hb dX8_append_32 rfl (lv_at hl 1 rfl) ?_
  refine x_getI E h (fi_rt_length g) rfl hwX8 (by decide) (by decide +kernel) (v := 3) rfl dX8_append_33 ?_
  refine lv_lload_n hx hb dX8_append_36 rfl (lv_at hl 2 rfl) ?_
  refine lv_bipush (v := 8) hx hb dX8_append_37 (by decide) ?_
  refine lv_iload hx hb dX8_append_39 (lv_at hl 0 rfl) ?_
  refine lv_imul hx hb dX8_append_41 ?_
  refine x_topI (v2 := 24) (by decide) ?_
  refine lv_lushr hx hb dX8_append_42 rfl ?_
  refine lv_topl (fun y7 ey7 => ?_)
  refine lv_l2i hx hb dX8_append_43 rfl ?_
  refine lv_topi (fun x8 ex8 => ?_)
  refine lv_sipush (v := 255) hx hb dX8_append_44 (by decide) ?_
  refine lv_iand hx hb dX8_append_47 ?_
  refine x_stI E h (ia_rt_bytes g) (i := 3) (by unfold vp_in; decide) (j := (3)) rfl rfl dX8_append_48 (fun H locs h => ?_)
  refine lv_aload_n hx hb dX8_append_49 rfl (lv_at hl 1 rfl) ?_
  refine lv_dup hx hb dX8_append_50 rfl ?_
  refine x_getI E h (fi_rt_length g) rfl hwX8 (by decide) (by decide +kernel) (v := 3) rfl dX8_append_51 ?_
  refine lv_iconst (v := 1) hx hb dX8_append_54 (by decide) ?_
  refine lv_iadd hx hb dX8_append_55 ?_
  refine x_topI (v2 := 4) (by decide) ?_
  refine x_putI E h (ty := .int) (v := 4) (fi_rt_length g) rfl hwX8 tyX8_ok nmX8 (by decide) (by decide +kernel) (by decide +kernel) (by decide +kernel) rfl rfl dX8_append_56 (fun H locs h => ?_)
  refine lv_iinc (v := 2) (lv' := [(4, .int 2), (0, .ref (g.2.1 1)), (1, .long p1), (3, .int 7)]) hx hb dX8_append_59 hl (k := 0) rfl (by decide) (by decide) rfl (fun ls hl => ?_)
  refine lv_goto (tgt := 23) hx hb dX8_append_62 (by decide) ?_
  refine lv_iload hx hb dX8_append_23 (lv_at hl 0 rfl) ?_
  refine lv_if_lt (tgt := 65) hx hb dX8_append_25 (by decide) (fun c => absurd c (by decide)) (fun _ => ?_)
  refine lv_aload_n hx hb dX8_append_28 rfl (lv_at hl 1 rfl) ?_
  refine x_getR E h (fr_rt_bytes g) rfl hwX8 (by decide) (by decide +kernel) dX8_append_29 ?_
  refine lv_aload_n hx hb dX8_append_32 rfl (lv_at hl 1 rfl) ?_
  refine x_getI E h (fi_rt_length g) rfl hwX8 (by decide) (by decide +kernel) (v := 4) rfl dX8_append_33 ?_
  refine lv_lload_n hx hb dX8_append_36 rfl (lv_at hl 2 rfl) ?_
  refine lv_bipush (v := 8) hx hb dX8_append_37 (by decide) ?_
  refine lv_iload hx hb dX8_append_39 (lv_at hl 0 rfl) ?_
  refine lv_imul hx hb dX8_append_41 ?_
  refine x_topI (v2 := 16) (by decide) ?_
  refine lv_lushr hx hb dX8_append_42 rfl ?_
  refine lv_topl (fun y9 ey9 => ?_)
  refine lv_l2i hx hb dX8_append_43 rfl ?_
  refine lv_topi (fun x10 ex10 => ?_)
  refine lv_sipush (v := 255) hx hb dX8_append_44 (by decide) ?_
  refine lv_iand hx hb dX8_append_47 ?_
  refine x_stI E h (ia_rt_bytes g) (i := 4) (by unfold vp_in; decide) (j := (4)) rfl rfl dX8_append_48 (fun H locs h => ?_)
  refine lv_aload_n hx hb dX8_append_49 rfl (lv_at hl 1 rfl) ?_
  refine lv_dup hx hb dX8_append_50 rfl ?_
  refine x_getI E h (fi_rt_length g) rfl hwX8 (by decide) (by decide +kernel) (v := 4) rfl dX8_append_51 ?_
  refine lv_iconst (v := 1) hx hb dX8_append_54 (by decide) ?_
  refine lv_iadd hx hb dX8_append_55 ?_
  refine x_topI (v2 := 5) (by decide) ?_
  refine x_putI E h (ty := .int) (v := 5) (fi_rt_length g) rfl hwX8 tyX8_ok nmX8 (by decide) (by decide +kernel) (by decide +kernel) (by decide +kernel) rfl rfl dX8_append_56 (fun H locs h => ?_)
  refine lv_iinc (v := 1) (lv' := [(4, .int 1), (0, .ref (g.2.1 1)), (1, .long p1), (3, .int 7)]) hx hb dX8_append_59 hl (k := 0) rfl (by decide) (by decide) rfl (fun ls hl => ?_)
  refine lv_goto (tgt := 23) hx hb dX8_append_62 (by decide) ?_
  refine lv_iload hx hb dX8_append_23 (lv_at hl 0 rfl) ?_
  refine lv_if_lt (tgt := 65) hx hb dX8_append_25 (by decide) (fun c => absurd c (by decide)) (fun _ => ?_)
  refine lv_aload_n hx hb dX8_append_28 rfl (lv_at hl 1 rfl) ?_
  refine x_getR E h (fr_rt_bytes g) rfl hwX8 (by decide) (by decide +kernel) dX8_append_29 ?_
  refine lv_aload_n hx hb dX8_append_32 rfl (lv_at hl 1 rfl) ?_
  refine x_getI E h (fi_rt_length g) rfl hwX8 (by decide) (by decide +kernel) (v := 5) rfl dX8_append_33 ?_
  refine lv_lload_n hx hb dX8_append_36 rfl (lv_at hl 2 rfl) ?_
  refine lv_bipush (v := 8) hx hb dX8_append_37 (by decide) ?_
  refine lv_iload hx hb dX8_append_39 (lv_at hl 0 rfl) ?_
  refine lv_imul hx hb dX8_append_41 ?_
  refine x_topI (v2 := 8) (by decide) ?_
  refine lv_lushr hx hb dX8_append_42 rfl ?_
  refine lv_topl (fun y11 ey11 => ?_)
  refine lv_l2i hx hb dX8_append_43 rfl ?_
  refine lv_topi (fun x12 ex12 => ?_)
  refine lv_sipush (v := 255) hx hb dX8_append_44 (by decide) ?_
  refine lv_iand hx hb dX8_append_47 ?_
  refine x_stI E h (ia_rt_bytes g) (i := 5) (by unfold vp_in; decide) (j := (5)) rfl rfl dX8_append_48 (fun H locs h => ?_)
  refine lv_aload_n hx hb dX8_append_49 rfl (lv_at hl 1 rfl) ?_
  refine lv_dup hx hb dX8_append_50 rfl ?_
  refine x_getI E h (fi_rt_length g) rfl hwX8 (by decide) (by decide +kernel) (v := 5) rfl dX8_append_51 ?_
  refine lv_iconst (v := 1) hx hb dX8_append_54 (by decide) ?_
  refine lv_iadd hx hb dX8_append_55 ?_
  refine x_topI (v2 := 6) (by decide) ?_
  refine x_putI E h (ty := .int) (v := 6) (fi_rt_length g) rfl hwX8 tyX8_ok nmX8 (by decide) (by decide +kernel) (by decide +kernel) (by decide +kernel) rfl rfl dX8_append_56 (fun H locs h => ?_)
  refine lv_iinc (v := 0) (lv' := [(4, .int 0), (0, .ref (g.2.1 1)), (1, .long p1), (3, .int 7)]) hx hb dX8_append_59 hl (k := 0) rfl (by decide) (by decide) rfl (fun ls hl => ?_)
  refine lv_goto (tgt := 23) hx hb dX8_append_62 (by decide) ?_
  refine lv_iload hx hb dX8_append_23 (lv_at hl 0 rfl) ?_
  refine lv_if_lt (tgt := 65) hx hb dX8_append_25 (by decide) (fun c => absurd c (by decide)) (fun _ => ?_)
  refine lv_aload_n hx hb dX8_append_28 rfl (lv_at hl 1 rfl) ?_
  refine x_getR E h (fr_rt_bytes g) rfl hwX8 (by decide) (by decide +kernel) dX8_append_29 ?_
  refine lv_aload_n hx hb dX8_append_32 rfl (lv_at hl 1 rfl) ?_
  refine x_getI E h (fi_rt_length g) rfl hwX8 (by decide) (by decide +kernel) (v := 6) rfl dX8_append_33 ?_
  refine lv_lload_n hx hb dX8_append_36 rfl (lv_at hl 2 rfl) ?_
  refine lv_bipush (v := 8) hx hb dX8_append_37 (by decide) ?_
  refine lv_iload hx hb dX8_append_39 (lv_at hl 0 rfl) ?_
  refine lv_imul hx hb dX8_append_41 ?_
  refine x_topI (v2 := 0) (by decide) ?_
  refine lv_lushr hx hb dX8_append_42 rfl ?_
  refine lv_topl (fun y13 ey13 => ?_)
  refine lv_l2i hx hb dX8_append_43 rfl ?_
  refine lv_topi (fun x14 ex14 => ?_)
  refine lv_sipush (v := 255) hx hb dX8_append_44 (by decide) ?_
  refine lv_iand hx hb dX8_append_47 ?_
  refine x_stI E h (ia_rt_bytes g) (i := 6) (by unfold vp_in; decide) (j := (6)) rfl rfl dX8_append_48 (fun H locs h => ?_)
  refine lv_aload_n hx hb dX8_append_49 rfl (lv_at hl 1 rfl) ?_
  refine lv_dup hx hb dX8_append_50 rfl ?_
  refine x_getI E h (fi_rt_length g) rfl hwX8 (by decide) (by decide +kernel) (v := 6) rfl dX8_append_51 ?_
  refine lv_iconst (v := 1) hx hb dX8_append_54 (by decide) ?_
  refine lv_iadd hx hb dX8_append_55 ?_
  refine x_topI (v2 := 7) (by decide) ?_
  refine x_putI E h (ty := .int) (v := 7) (fi_rt_length g) rfl hwX8 tyX8_ok nmX8 (by decide) (by decide +kernel) (by decide +kernel) (by decide +kernel) rfl rfl dX8_append_56 (fun H locs h => ?_)
  refine lv_iinc (v := (-1)) (lv' := [(4, .int (-1)), (0, .ref (g.2.1 1)), (1, .long p1), (3, .int 7)]) hx hb dX8_append_59 hl (k := 0) rfl (by decide) (by decide) rfl (fun ls hl => ?_)
  refine lv_goto (tgt := 23) hx hb dX8_append_62 (by decide) ?_
  refine lv_iload hx hb dX8_append_23 (lv_at hl 0 rfl) ?_
  refine lv_if_lt (tgt := 65) hx hb dX8_append_25 (by decide) (fun _ => ?_) (fun c => absurd (by decide) c)
  refine lv_iconst (v := 1) hx hb dX8_append_65 (by decide) ?_
  exact x_zret E h rfl ⟨rfl, rfl, MO.refl σ⟩ dX8_append_66
set_option maxHeartbeats 4000000 in
set_option maxRecDepth 100000 in
theorem kX8_append_7 (l : Launch) (g : CX) (σ : ST) (p1 : Int64) (fI_0 : σ.1 0 = 0) : XM l g yX8_append wsX8_append { frames := 0, cells := 0, slots := 0, locals := 0 } [.ref (g.2.1 1), .long p1, .int 8] σ (XQi g (fun r σ' => r = 1 ∧ σ'.1 0 = 8 ∧ MO σ' σ)) := by
  refine x_met (own := RX8) (cc := cX8_append) (maxL := 5) (ret := (some .boolean)) (lv := [(0, .ref (g.2.1 1)), (1, .long p1), (3, .int 8)]) (by decide) rfl rfl (Nat.le_of_ble_eq_true rfl) rfl ?_
  intro p e s m args below meth c ls E h hl
  have hx := E.1
  have hb := E.2.1
  have hown := E.2.2.2.1
  have hts := E.2.2.2.2.1
  have hwX8 : ∀ w ∈ wsX80, w ∈ wsX8_append := by decide +kernel
  refine lv_iload_n hx hb dX8_append_0 rfl (lv_at hl 2 rfl) ?_
  refine lv_if_lt (tgt := 16) hx hb dX8_append_1 (by decide) (fun c => absurd c (by decide)) (fun _ => ?_)
  refine lv_iload_n hx hb dX8_append_4 rfl (lv_at hl 2 rfl) ?_
  refine lv_sipush (v := 200) hx hb dX8_append_5 (by decide) ?_
  refine lv_aload_n hx hb dX8_append_8 rfl (lv_at hl 0 rfl) ?_
  refine x_getI E h (fi_rt_length g) rfl hwX8 (by decide) (by decide +kernel) (v := 0) fI_0 dX8_append_9 ?_
  refine lv_isub hx hb dX8_append_12 ?_
  refine x_topI (v2 := 200) (by decide) ?_
  refine lv_icmp_le (tgt := 18) hx hb dX8_append_13 (by decide) (fun _ => ?_) (fun c => absurd (by decide) c)
  refine lv_iload_n hx hb dX8_append_18 rfl (lv_at hl 2 rfl) ?_
  refine lv_iconst (v := 1) hx hb dX8_append_19 (by decide) ?_
  refine lv_isub hx hb dX8_append_20 ?_
  refine x_topI (v2 := 7) (by decide) ?_
  refine lv_istore (lv' := [(4, .int 7), (0, .ref (g.2.1 1)), (1, .long p1), (3, .int 8)]) hx hb dX8_append_21 hl (by decide) rfl (fun ls hl => ?_)
  refine lv_iload hx hb dX8_append_23 (lv_at hl 0 rfl) ?_
  refine lv_if_lt (tgt := 65) hx hb dX8_append_25 (by decide) (fun c => absurd c (by decide)) (fun _ => ?_)
  refine lv_aload_n hx hb dX8_append_28 rfl (lv_at hl 1 rfl) ?_
  refine x_getR E h (fr_rt_bytes g) rfl hwX8 (by decide) (by decide +kernel) dX8_append_29 ?_
  refine lv_aload_n hx hb dX8_append_32 rfl (lv_at hl 1 rfl) ?_
  refine x_getI E h (fi_rt_length g) rfl hwX8 (by decide) (by decide +kernel) (v := 0) fI_0 dX8_append_33 ?_
  refine lv_lload_n hx hb dX8_append_36 rfl (lv_at hl 2 rfl) ?_
  refine lv_bipush (v := 8) hx hb dX8_append_37 (by decide) ?_
  refine lv_iload hx hb dX8_append_39 (lv_at hl 0 rfl) ?_
  refine lv_imul hx hb dX8_append_41 ?_
  refine x_topI (v2 := 56) (by decide) ?_
  refine lv_lushr hx hb dX8_append_42 rfl ?_
  refine lv_topl (fun y1 ey1 => ?_)
  refine lv_l2i hx hb dX8_append_43 rfl ?_
  refine lv_topi (fun x2 ex2 => ?_)
  refine lv_sipush (v := 255) hx hb dX8_append_44 (by decide) ?_
  refine lv_iand hx hb dX8_append_47 ?_
  refine x_stI E h (ia_rt_bytes g) (i := 0) (by unfold vp_in; decide) (j := (0)) rfl rfl dX8_append_48 (fun H locs h => ?_)
  refine lv_aload_n hx hb dX8_append_49 rfl (lv_at hl 1 rfl) ?_
  refine lv_dup hx hb dX8_append_50 rfl ?_
  refine x_getI E h (fi_rt_length g) rfl hwX8 (by decide) (by decide +kernel) (v := 0) fI_0 dX8_append_51 ?_
  refine lv_iconst (v := 1) hx hb dX8_append_54 (by decide) ?_
  refine lv_iadd hx hb dX8_append_55 ?_
  refine x_topI (v2 := 1) (by decide) ?_
  refine x_putI E h (ty := .int) (v := 1) (fi_rt_length g) rfl hwX8 tyX8_ok nmX8 (by decide) (by decide +kernel) (by decide +kernel) (by decide +kernel) rfl rfl dX8_append_56 (fun H locs h => ?_)
  refine lv_iinc (v := 6) (lv' := [(4, .int 6), (0, .ref (g.2.1 1)), (1, .long p1), (3, .int 8)]) hx hb dX8_append_59 hl (k := 0) rfl (by decide) (by decide) rfl (fun ls hl => ?_)
  refine lv_goto (tgt := 23) hx hb dX8_append_62 (by decide) ?_
  refine lv_iload hx hb dX8_append_23 (lv_at hl 0 rfl) ?_
  refine lv_if_lt (tgt := 65) hx hb dX8_append_25 (by decide) (fun c => absurd c (by decide)) (fun _ => ?_)
  refine lv_aload_n hx hb dX8_append_28 rfl (lv_at hl 1 rfl) ?_
  refine x_getR E h (fr_rt_bytes g) rfl hwX8 (by decide) (by decide +kernel) dX8_append_29 ?_
  refine lv_aload_n hx hb dX8_append_32 rfl (lv_at hl 1 rfl) ?_
  refine x_getI E h (fi_rt_length g) rfl hwX8 (by decide) (by decide +kernel) (v := 1) rfl dX8_append_33 ?_
  refine lv_lload_n hx hb dX8_append_36 rfl (lv_at hl 2 rfl) ?_
  refine lv_bipush (v := 8) hx hb dX8_append_37 (by decide) ?_
  refine lv_iload hx hb dX8_append_39 (lv_at hl 0 rfl) ?_
  refine lv_imul hx hb dX8_append_41 ?_
  refine x_topI (v2 := 48) (by decide) ?_
  refine lv_lushr hx hb dX8_append_42 rfl ?_
  refine lv_topl (fun y3 ey3 => ?_)
  refine lv_l2i hx hb dX8_append_43 rfl ?_
  refine lv_topi (fun x4 ex4 => ?_)
  refine lv_sipush (v := 255) hx hb dX8_append_44 (by decide) ?_
  refine lv_iand hx hb dX8_append_47 ?_
  refine x_stI E h (ia_rt_bytes g) (i := 1) (by unfold vp_in; decide) (j := (1)) rfl rfl dX8_append_48 (fun H locs h => ?_)
  refine lv_aload_n hx hb dX8_append_49 rfl (lv_at hl 1 rfl) ?_
  refine lv_dup hx hb dX8_append_50 rfl ?_
  refine x_getI E h (fi_rt_length g) rfl hwX8 (by decide) (by decide +kernel) (v := 1) rfl dX8_append_51 ?_
  refine lv_iconst (v := 1) hx hb dX8_append_54 (by decide) ?_
  refine lv_iadd hx hb dX8_append_55 ?_
  refine x_topI (v2 := 2) (by decide) ?_
  refine x_putI E h (ty := .int) (v := 2) (fi_rt_length g) rfl hwX8 tyX8_ok nmX8 (by decide) (by decide +kernel) (by decide +kernel) (by decide +kernel) rfl rfl dX8_append_56 (fun H locs h => ?_)
  refine lv_iinc (v := 5) (lv' := [(4, .int 5), (0, .ref (g.2.1 1)), (1, .long p1), (3, .int 8)]) hx hb dX8_append_59 hl (k := 0) rfl (by decide) (by decide) rfl (fun ls hl => ?_)
  refine lv_goto (tgt := 23) hx hb dX8_append_62 (by decide) ?_
  refine lv_iload hx hb dX8_append_23 (lv_at hl 0 rfl) ?_
  refine lv_if_lt (tgt := 65) hx hb dX8_append_25 (by decide) (fun c => absurd c (by decide)) (fun _ => ?_)
  refine lv_aload_n hx hb dX8_append_28 rfl (lv_at hl 1 rfl) ?_
  refine x_getR E h (fr_rt_bytes g) rfl hwX8 (by decide) (by decide +kernel) dX8_append_29 ?_
  refine lv_aload_n hx hb dX8_append_32 rfl (lv_at hl 1 rfl) ?_
  refine x_getI E h (fi_rt_length g) rfl hwX8 (by decide) (by decide +kernel) (v := 2) rfl dX8_append_33 ?_
  refine lv_lload_n hx hb dX8_append_36 rfl (lv_at hl 2 rfl) ?_
  refine lv_bipush (v := 8) hx hb dX8_append_37 (by decide) ?_
  refine lv_iload hx hb dX8_append_39 (lv_at hl 0 rfl) ?_
  refine lv_imul hx hb dX8_append_41 ?_
  refine x_topI (v2 := 40) (by decide) ?_
  refine lv_lushr hx hb dX8_append_42 rfl ?_
  refine lv_topl (fun y5 ey5 => ?_)
  refine lv_l2i hx hb dX8_append_43 rfl ?_
  refine lv_topi (fun x6 ex6 => ?_)
  refine lv_sipush (v := 255) hx hb dX8_append_44 (by decide) ?_
  refine lv_iand hx hb dX8_append_47 ?_
  refine x_stI E h (ia_rt_bytes g) (i := 2) (by unfold vp_in; decide) (j := (2)) rfl rfl dX8_append_48 (fun H locs h => ?_)
  refine lv_aload_n hx hb dX8_append_49 rfl (lv_at hl 1 rfl) ?_
  refine lv_dup hx hb dX8_append_50 rfl ?_
  refine x_getI E h (fi_rt_length g) rfl hwX8 (by decide) (by decide +kernel) (v := 2) rfl dX8_append_51 ?_
  refine lv_iconst (v := 1) hx hb dX8_append_54 (by decide) ?_
  refine lv_iadd hx hb dX8_append_55 ?_
  refine x_topI (v2 := 3) (by decide) ?_
  refine x_putI E h (ty := .int) (v := 3) (fi_rt_length g) rfl hwX8 tyX8_ok nmX8 (by decide) (by decide +kernel) (by decide +kernel) (by decide +kernel) rfl rfl dX8_append_56 (fun H locs h => ?_)
  refine lv_iinc (v := 4) (lv' := [(4, .int 4), (0, .ref (g.2.1 1)), (1, .long p1), (3, .int 8)]) hx hb dX8_append_59 hl (k := 0) rfl (by decide) (by decide) rfl (fun ls hl => ?_)
  refine lv_goto (tgt := 23) hx hb dX8_append_62 (by decide) ?_
  refine lv_iload hx hb dX8_append_23 (lv_at hl 0 rfl) ?_
  refine lv_if_lt (tgt := 65) hx hb dX8_append_25 (by decide) (fun c => absurd c (by decide)) (fun _ => ?_)
  refine lv_aload_n hx hb dX8_append_28 rfl (lv_at hl 1 rfl) ?_
  refine x_getR E h (fr_rt_bytes g) rfl hwX8 (by decide) (by decide +kernel) dX8_append_29 ?_
  refine lv_aload_n hx hb dX8_append_32 rfl (lv_at hl 1 rfl) ?_
  refine x_getI E h (fi_rt_length g) rfl hwX8 (by decide) (by decide +kernel) (v := 3) rfl dX8_append_33 ?_
  refine lv_lload_n hx hb dX8_append_36 rfl (lv_at hl 2 rfl) ?_
  refine lv_bipush (v := 8) hx hb dX8_append_37 (by decide) ?_
  refine lv_iload hx hb dX8_append_39 (lv_at hl 0 rfl) ?_
  refine lv_imul hx hb dX8_append_41 ?_
  refine x_topI (v2 := 32) (by decide) ?_
  refine lv_lushr hx hb dX8_append_42 rfl ?_
  refine lv_topl (fun y7 ey7 => ?_)
  refine lv_l2i hx hb dX8_append_43 rfl ?_
  refine lv_topi (fun x8 ex8 => ?_)
  refine lv_sipush (v := 255) hx hb dX8_append_44 (by decide) ?_
  refine lv_iand hx hb dX8_append_47 ?_
  refine x_stI E h (ia_rt_bytes g) (i := 3) (by unfold vp_in; decide) (j := (3)) rfl rfl dX8_append_48 (fun H locs h => ?_)
  refine lv_aload_n hx hb dX8_append_49 rfl (lv_at hl 1 rfl) ?_
  refine lv_dup hx hb dX8_append_50 rfl ?_
  refine x_getI E h (fi_rt_length g) rfl hwX8 (by decide) (by decide +kernel) (v := 3) rfl dX8_append_51 ?_
  refine lv_iconst (v := 1) hx hb dX8_append_54 (by decide) ?_
  refine lv_iadd hx hb dX8_append_55 ?_
  refine x_topI (v2 := 4) (by decide) ?_
  refine x_putI E h (ty := .int) (v := 4) (fi_rt_length g) rfl hwX8 tyX8_ok nmX8 (by decide) (by decide +kernel) (by decide +kernel) (by decide +kernel) rfl rfl dX8_append_56 (fun H locs h => ?_)
  refine lv_iinc (v := 3) (lv' := [(4, .int 3), (0, .ref (g.2.1 1)), (1, .long p1), (3, .int 8)]) hx hb dX8_append_59 hl (k := 0) rfl (by decide) (by decide) rfl (fun ls hl => ?_)
  refine lv_goto (tgt := 23) hx hb dX8_append_62 (by decide) ?_
  refine lv_iload hx hb dX8_append_23 (lv_at hl 0 rfl) ?_
  refine lv_if_lt (tgt := 65) hx hb dX8_append_25 (by decide) (fun c => absurd c (by decide)) (fun _ => ?_)
  refine lv_aload_n hx hb dX8_append_28 rfl (lv_at hl 1 rfl) ?_
  refine x_getR E h (fr_rt_bytes g) rfl hwX8 (by decide) (by decide +kernel) dX8_append_29 ?_
  refine lv_aload_n hx hb dX8_append_32 rfl (lv_at hl 1 rfl) ?_
  refine x_getI E h (fi_rt_length g) rfl hwX8 (by decide) (by decide +kernel) (v := 4) rfl dX8_append_33 ?_
  refine lv_lload_n hx hb dX8_append_36 rfl (lv_at hl 2 rfl) ?_
  refine lv_bipush (v := 8) hx hb dX8_append_37 (by decide) ?_
  refine lv_iload hx hb dX8_append_39 (lv_at hl 0 rfl) ?_
  refine lv_imul hx hb dX8_append_41 ?_
  refine x_topI (v2 := 24) (by decide) ?_
  refine lv_lushr hx hb dX8_append_42 rfl ?_
  refine lv_topl (fun y9 ey9 => ?_)
  refine lv_l2i hx hb dX8_append_43 rfl ?_
  refine lv_topi (fun x10 ex10 => ?_)
  refine lv_sipush (v := 255) hx hb dX8_append_44 (by decide) ?_
  refine lv_iand hx hb dX8_append_47 ?_
  refine x_stI E h (ia_rt_bytes g) (i := 4) (by unfold vp_in; decide) (j := (4)) rfl rfl dX8_append_48 (fun H locs h => ?_)
  refine lv_aload_n hx hb dX8_append_49 rfl (lv_at hl 1 rfl) ?_
  refine lv_dup hx hb dX8_append_50 rfl ?_
  refine x_getI E h (fi_rt_length g) rfl hwX8 (by decide) (by decide +kernel) (v := 4) rfl dX8_append_51 ?_
  refine lv_iconst (v := 1) hx hb dX8_append_54 (by decide) ?_
  refine lv_iadd hx hb dX8_append_55 ?_
  refine x_topI (v2 := 5) (by decide) ?_
  refine x_putI E h (ty := .int) (v := 5) (fi_rt_length g) rfl hwX8 tyX8_ok nmX8 (by decide) (by decide +kernel) (by decide +kernel) (by decide +kernel) rfl rfl dX8_append_56 (fun H locs h => ?_)
  refine lv_iinc (v := 2) (lv' := [(4, .int 2), (0, .ref (g.2.1 1)), (1, .long p1), (3, .int 8)]) hx hb dX8_append_59 hl (k := 0) rfl (by decide) (by decide) rfl (fun ls hl => ?_)
  refine lv_goto (tgt := 23) hx hb dX8_append_62 (by decide) ?_
  refine lv_iload hx hb dX8_append_23 (lv_at hl 0 rfl) ?_
  refine lv_if_lt (tgt := 65) hx hb dX8_append_25 (by decide) (fun c => absurd c (by decide)) (fun _ => ?_)
  refine lv_aload_n hx hb dX8_append_28 rfl (lv_at hl 1 rfl) ?_
  refine x_getR E h (fr_rt_bytes g) rfl hwX8 (by decide) (by decide +kernel) dX8_append_29 ?_
  refine lv_aload_n hx hb dX8_append_32 rfl (lv_at hl 1 rfl) ?_
  refine x_getI E h (fi_rt_length g) rfl hwX8 (by decide) (by decide +kernel) (v := 5) rfl dX8_append_33 ?_
  refine lv_lload_n hx hb dX8_append_36 rfl (lv_at hl 2 rfl) ?_
  refine lv_bipush (v := 8) hx hb dX8_append_37 (by decide) ?_
  refine lv_iload hx hb dX8_append_39 (lv_at hl 0 rfl) ?_
  refine lv_imul hx hb dX8_append_41 ?_
  refine x_topI (v2 := 16) (by decide) ?_
  refine lv_lushr hx hb dX8_append_42 rfl ?_
  refine lv_topl (fun y11 ey11 => ?_)
  refine lv_l2i hx hb dX8_append_43 rfl ?_
  refine lv_topi (fun x12 ex12 => ?_)
  refine lv_sipush (v := 255) hx hb dX8_append_44 (by decide) ?_
  refine lv_iand hx hb dX8_append_47 ?_
  refine x_stI E h (ia_rt_bytes g) (i := 5) (by unfold vp_in; decide) (j := (5)) rfl rfl dX8_append_48 (fun H locs h => ?_)
  refine lv_aload_n hx hb dX8_append_49 rfl (lv_at hl 1 rfl) ?_
  refine lv_dup hx hb dX8_append_50 rfl ?_
  refine x_getI E h (fi_rt_length g) rfl hwX8 (by decide) (by decide +kernel) (v := 5) rfl dX8_append_51 ?_
  refine lv_iconst (v := 1) hx hb dX8_append_54 (by decide) ?_
  refine lv_iadd hx hb dX8_append_55 ?_
  refine x_topI (v2 := 6) (by decide) ?_
  refine x_putI E h (ty := .int) (v := 6) (fi_rt_length g) rfl hwX8 tyX8_ok nmX8 (by decide) (by decide +kernel) (by decide +kernel) (by decide +kernel) rfl rfl dX8_append_56 (fun H locs h => ?_)
  refine lv_iinc (v := 1) (lv' := [(4, .int 1), (0, .ref (g.2.1 1)), (1, .long p1), (3, .int 8)]) hx hb dX8_append_59 hl (k := 0) rfl (by decide) (by decide) rfl (fun ls hl => ?_)
  refine lv_goto (tgt := 23) hx hb dX8_append_62 (by decide) ?_
  refine lv_iload hx hb dX8_append_23 (lv_at hl 0 rfl) ?_
  refine lv_if_lt (tgt := 65) hx hb dX8_append_25 (by decide) (fun c => absurd c (by decide)) (fun _ => ?_)
  refine lv_aload_n hx hb dX8_append_28 rfl (lv_at hl 1 rfl) ?_
  refine x_getR E h (fr_rt_bytes g) rfl hwX8 (by decide) (by decide +kernel) dX8_append_29 ?_
  refine lv_aload_n hx hb dX8_append_32 rfl (lv_at hl 1 rfl) ?_
  refine x_getI E h (fi_rt_length g) rfl hwX8 (by decide) (by decide +kernel) (v := 6) rfl dX8_append_33 ?_
  refine lv_lload_n hx hb dX8_append_36 rfl (lv_at hl 2 rfl) ?_
  refine lv_bipush (v := 8) hx hb dX8_append_37 (by decide) ?_
  refine lv_iload hx hb dX8_append_39 (lv_at hl 0 rfl) ?_
  refine lv_imul hx hb dX8_append_41 ?_
  refine x_topI (v2 := 8) (by decide) ?_
  refine lv_lushr hx hb dX8_append_42 rfl ?_
  refine lv_topl (fun y13 ey13 => ?_)
  refine lv_l2i hx hb dX8_append_43 rfl ?_
  refine lv_topi (fun x14 ex14 => ?_)
  refine lv_sipush (v := 255) hx hb dX8_append_44 (by decide) ?_
  refine lv_iand hx hb dX8_append_47 ?_
  refine x_stI E h (ia_rt_bytes g) (i := 6) (by unfold vp_in; decide) (j := (6)) rfl rfl dX8_append_48 (fun H locs h => ?_)
  refine lv_aload_n hx hb dX8_append_49 rfl (lv_at hl 1 rfl) ?_
  refine lv_dup hx hb dX8_append_50 rfl ?_
  refine x_getI E h (fi_rt_length g) rfl hwX8 (by decide) (by decide +kernel) (v := 6) rfl dX8_append_51 ?_
  refine lv_iconst (v := 1) hx hb dX8_append_54 (by decide) ?_
  refine lv_iadd hx hb dX8_append_55 ?_
  refine x_topI (v2 := 7) (by decide) ?_
  refine x_putI E h (ty := .int) (v := 7) (fi_rt_length g) rfl hwX8 tyX8_ok nmX8 (by decide) (by decide +kernel) (by decide +kernel) (by decide +kernel) rfl rfl dX8_append_56 (fun H locs h => ?_)
  refine lv_iinc (v := 0) (lv' := [(4, .int 0), (0, .ref (g.2.1 1)), (1, .long p1), (3, .int 8)]) hx hb dX8_append_59 hl (k := 0) rfl (by decide) (by decide) rfl (fun ls hl => ?_)
  refine lv_goto (tgt := 23) hx hb dX8_append_62 (by decide) ?_
  refine lv_iload hx hb dX8_append_23 (lv_at hl 0 rfl) ?_
  refine lv_if_lt (tgt := 65) hx hb dX8_append_25 (by decide) (fun c => absurd c (by decide)) (fun _ => ?_)
  refine lv_aload_n hx hb dX8_append_28 rfl (lv_at hl 1 rfl) ?_
  refine x_getR E h (fr_rt_bytes g) rfl hwX8 (by decide) (by decide +kernel) dX8_append_29 ?_
  refine lv_aload_n hx hb dX8_append_32 rfl (lv_at hl 1 rfl) ?_
  refine x_getI E h (fi_rt_length g) rfl hwX8 (by decide) (by decide +kernel) (v := 7) rfl dX8_append_33 ?_
  refine lv_lload_n hx hb dX8_append_36 rfl (lv_at hl 2 rfl) ?_
  refine lv_bipush (v := 8) hx hb dX8_append_37 (by decide) ?_
  refine lv_iload hx hb dX8_append_39 (lv_at hl 0 rfl) ?_
  refine lv_imul hx hb dX8_append_41 ?_
  refine x_topI (v2 := 0) (by decide) ?_
  refine lv_lushr hx hb dX8_append_42 rfl ?_
  refine lv_topl (fun y15 ey15 => ?_)
  refine lv_l2i hx hb dX8_append_43 rfl ?_
  refine lv_topi (fun x16 ex16 => ?_)
  refine lv_sipush (v := 255) hx hb dX8_append_44 (by decide) ?_
  refine lv_iand hx hb dX8_append_47 ?_
  refine x_stI E h (ia_rt_bytes g) (i := 7) (by unfold vp_in; decide) (j := (7)) rfl rfl dX8_append_48 (fun H locs h => ?_)
  refine lv_aload_n hx hb dX8_append_49 rfl (lv_at hl 1 rfl) ?_
  refine lv_dup hx hb dX8_append_50 rfl ?_
  refine x_getI E h (fi_rt_length g) rfl hwX8 (by decide) (by decide +kernel) (v := 7) rfl dX8_append_51 ?_
  refine lv_iconst (v := 1) hx hb dX8_append_54 (by decide) ?_
  refine lv_iadd hx hb dX8_append_55 ?_
  refine x_topI (v2 := 8) (by decide) ?_
  refine x_putI E h (ty := .int) (v := 8) (fi_rt_length g) rfl hwX8 tyX8_ok nmX8 (by decide) (by decide +kernel) (by decide +kernel) (by decide +kernel) rfl rfl dX8_append_56 (fun H locs h => ?_)
  refine lv_iinc (v := (-1)) (lv' := [(4, .int (-1)), (0, .ref (g.2.1 1)), (1, .long p1), (3, .int 8)]) hx hb dX8_append_59 hl (k := 0) rfl (by decide) (by decide) rfl (fun ls hl => ?_)
  refine lv_goto (tgt := 23) hx hb dX8_append_62 (by decide) ?_
  refine lv_iload hx hb dX8_append_23 (lv_at hl 0 rfl) ?_
  refine lv_if_lt (tgt := 65) hx hb dX8_append_25 (by decide) (fun _ => ?_) (fun c => absurd (by decide) c)
  refine lv_iconst (v := 1) hx hb dX8_append_65 (by decide) ?_
  exact x_zret E h rfl ⟨rfl, rfl, MO.refl σ⟩ dX8_append_66
set_option maxHeartbeats 4000000 in
set_option maxRecDepth 100000 in
theorem kX11_type_0 (l : Launch) (g : CX) (σ : ST) (p1 : Int64) (p2 : Int32) (fI_0 : σ.1 0 = 0) : XM l g yX11_type wsX11_type { frames := 1, cells := 0, slots := 0, locals := 24 } [.ref (g.2.1 0), .long p1, .int p2] σ (XQi g (fun r σ' => (bB p2 1 8 = 1 ∧ r = p2 ∧ MO σ' σ) ∨ (bB p2 1 8 = 0 ∧ r = (-1) ∧ MO σ' σ))) := by
  refine x_met (own := RX11) (cc := cX11_type) (maxL := 4) (ret := (some .int)) (lv := [(0, .ref (g.2.1 0)), (1, .long p1), (3, .int p2)]) (by decide) rfl rfl (Nat.le_of_ble_eq_true rfl) rfl ?_
  intro p e s m args below meth c ls E h hl
  have hx := E.1
  have hb := E.2.1
  have hown := E.2.2.2.1
  have hts := E.2.2.2.2.1
  have hwX11 : ∀ w ∈ wsX110, w ∈ wsX11_type := by decide +kernel
  have hwX8 : ∀ w ∈ wsX80, w ∈ wsX11_type := by decide +kernel
  refine lv_iload_n hx hb dX11_type_0 rfl (lv_at hl 2 rfl) ?_
  refine lv_iconst (v := 1) hx hb dX11_type_1 (by decide) ?_
  refine lv_bipush (v := 8) hx hb dX11_type_2 (by decide) ?_
  refine x_si E h (As := [.int p2, .int 1, .int 8]) (kX11_within_0 l g _ p2 1 8) gX11_type_X11_within rfl ⟨rfl, rfl⟩ rfl (by decide +kernel) ⟨Nat.le_of_ble_eq_true rfl, Nat.le_of_ble_eq_true rfl⟩ hl.1 rfl (Nat.le_of_ble_eq_true rfl) dX11_type_4 ⟨Nat.le_of_ble_eq_true rfl, Nat.le_of_ble_eq_true rfl⟩ (fun r1 s1 H locs q1 h => ?_)
  rcases q1 with ⟨k1_0, rfl, rfl⟩ | ⟨k1_0, rfl, rfl⟩
  · skip
    refine lv_if_ne (tgt := 12) hx hb dX11_type_7 (by decide) (fun _ => ?_) (fun c => absurd c (by decide))
    rcases (bB_1_8 k1_0) with rfl | rfl | rfl | rfl | rfl | rfl | rfl | rfl
    · skip
      refine lv_aload_n hx hb dX11_type_12 rfl (lv_at hl 0 rfl) ?_
      refine x_getR E h (fr_vh_ruleText g) rfl hwX11 (by decide) (by decide +kernel) dX11_type_13 ?_
      refine lv_lload_n hx hb dX11_type_16 rfl (lv_at hl 1 rfl) ?_
      refine lv_iload_n hx hb dX11_type_17 rfl (lv_at hl 2 rfl) ?_
      refine x_vi E h (As := [.long p1, .int 1]) (kX8_append_0 l g _ p1 fI_0) (oc_rt g) rfl gX11_type_X8_append rfl ⟨rfl, rfl⟩ rfl (by decide +kernel) ⟨Nat.le_of_ble_eq_true rfl, Nat.le_of_ble_eq_true rfl⟩ hl.1 rfl (Nat.le_of_ble_eq_true rfl) dX11_type_18 ⟨Nat.le_of_ble_eq_true rfl, Nat.le_of_ble_eq_true rfl⟩ (fun r2 s2 H locs q2 h => ?_)
      rcases q2 with ⟨rfl, z2_0, mo2⟩
      refine lv_if_eq (tgt := 34) hx hb dX11_type_21 (by decide) (fun c => absurd c (by decide)) (fun _ => ?_)
      refine lv_aload_n hx hb dX11_type_24 rfl (lv_at hl 0 rfl) ?_
      refine x_getR E h (fr_vh_ruleText g) rfl hwX11 (by decide) (by decide +kernel) dX11_type_25 ?_
      refine x_getIN E h (fi_rt_length g) rfl hwX8 (by decide) (by decide +kernel) (v := 1) z2_0 dX11_type_28 ?_
      refine lv_goto (tgt := 36) hx hb dX11_type_31 (by decide) ?_
      exact x_iret E h (Or.inl ⟨k1_0, rfl, mo2⟩) dX11_type_36
    · skip
      refine lv_aload_n hx hb dX11_type_12 rfl (lv_at hl 0 rfl) ?_
      refine x_getR E h (fr_vh_ruleText g) rfl hwX11 (by decide) (by decide +kernel) dX11_type_13 ?_
      refine lv_lload_n hx hb dX11_type_16 rfl (lv_at hl 1 rfl) ?_
      refine lv_iload_n hx hb dX11_type_17 rfl (lv_at hl 2 rfl) ?_
      refine x_vi E h (As := [.long p1, .int 2]) (kX8_append_1 l g _ p1 fI_0) (oc_rt g) rfl gX11_type_X8_append rfl ⟨rfl, rfl⟩ rfl (by decide +kernel) ⟨Nat.le_of_ble_eq_true rfl, Nat.le_of_ble_eq_true rfl⟩ hl.1 rfl (Nat.le_of_ble_eq_true rfl) dX11_type_18 ⟨Nat.le_of_ble_eq_true rfl, Nat.le_of_ble_eq_true rfl⟩ (fun r3 s3 H locs q3 h => ?_)
      rcases q3 with ⟨rfl, z3_0, mo3⟩
      refine lv_if_eq (tgt := 34) hx hb dX11_type_21 (by decide) (fun c => absurd c (by decide)) (fun _ => ?_)
      refine lv_aload_n hx hb dX11_type_24 rfl (lv_at hl 0 rfl) ?_
      refine x_getR E h (fr_vh_ruleText g) rfl hwX11 (by decide) (by decide +kernel) dX11_type_25 ?_
      refine x_getIN E h (fi_rt_length g) rfl hwX8 (by decide) (by decide +kernel) (v := 2) z3_0 dX11_type_28 ?_
      refine lv_goto (tgt := 36) hx hb dX11_type_31 (by decide) ?_
      exact x_iret E h (Or.inl ⟨k1_0, rfl, mo3⟩) dX11_type_36
    · skip
      refine lv_aload_n hx hb dX11_type_12 rfl (lv_at hl 0 rfl) ?_
      refine x_getR E h (fr_vh_ruleText g) rfl hwX11 (by decide) (by decide +kernel) dX11_type_13 ?_
      refine lv_lload_n hx hb dX11_type_16 rfl (lv_at hl 1 rfl) ?_
      refine lv_iload_n hx hb dX11_type_17 rfl (lv_at hl 2 rfl) ?_
      refine x_vi E h (As := [.long p1, .int 3]) (kX8_append_2 l g _ p1 fI_0) (oc_rt g) rfl gX11_type_X8_append rfl ⟨rfl, rfl⟩ rfl (by decide +kernel) ⟨Nat.le_of_ble_eq_true rfl, Nat.le_of_ble_eq_true rfl⟩ hl.1 rfl (Nat.le_of_ble_eq_true rfl) dX11_type_18 ⟨Nat.le_of_ble_eq_true rfl, Nat.le_of_ble_eq_true rfl⟩ (fun r4 s4 H locs q4 h => ?_)
      rcases q4 with ⟨rfl, z4_0, mo4⟩
      refine lv_if_eq (tgt := 34) hx hb dX11_type_21 (by decide) (fun c => absurd c (by decide)) (fun _ => ?_)
      refine lv_aload_n hx hb dX11_type_24 rfl (lv_at hl 0 rfl) ?_
      refine x_getR E h (fr_vh_ruleText g) rfl hwX11 (by decide) (by decide +kernel) dX11_type_25 ?_
      refine x_getIN E h (fi_rt_length g) rfl hwX8 (by decide) (by decide +kernel) (v := 3) z4_0 dX11_type_28 ?_
      refine lv_goto (tgt := 36) hx hb dX11_type_31 (by decide) ?_
      exact x_iret E h (Or.inl ⟨k1_0, rfl, mo4⟩) dX11_type_36
    · skip
      refine lv_aload_n hx hb dX11_type_12 rfl (lv_at hl 0 rfl) ?_
      refine x_getR E h (fr_vh_ruleText g) rfl hwX11 (by decide) (by decide +kernel) dX11_type_13 ?_
      refine lv_lload_n hx hb dX11_type_16 rfl (lv_at hl 1 rfl) ?_
      refine lv_iload_n hx hb dX11_type_17 rfl (lv_at hl 2 rfl) ?_
      refine x_vi E h (As := [.long p1, .int 4]) (kX8_append_3 l g _ p1 fI_0) (oc_rt g) rfl gX11_type_X8_append rfl ⟨rfl, rfl⟩ rfl (by decide +kernel) ⟨Nat.le_of_ble_eq_true rfl, Nat.le_of_ble_eq_true rfl⟩ hl.1 rfl (Nat.le_of_ble_eq_true rfl) dX11_type_18 ⟨Nat.le_of_ble_eq_true rfl, Nat.le_of_ble_eq_true rfl⟩ (fun r5 s5 H locs q5 h => ?_)
      rcases q5 with ⟨rfl, z5_0, mo5⟩
      refine lv_if_eq (tgt := 34) hx hb dX11_type_21 (by decide) (fun c => absurd c (by decide)) (fun _ => ?_)
      refine lv_aload_n hx hb dX11_type_24 rfl (lv_at hl 0 rfl) ?_
      refine x_getR E h (fr_vh_ruleText g) rfl hwX11 (by decide) (by decide +kernel) dX11_type_25 ?_
      refine x_getIN E h (fi_rt_length g) rfl hwX8 (by decide) (by decide +kernel) (v := 4) z5_0 dX11_type_28 ?_
      refine lv_goto (tgt := 36) hx hb dX11_type_31 (by decide) ?_
      exact x_iret E h (Or.inl ⟨k1_0, rfl, mo5⟩) dX11_type_36
    · skip
      refine lv_aload_n hx hb dX11_type_12 rfl (lv_at hl 0 rfl) ?_
      refine x_getR E h (fr_vh_ruleText g) rfl hwX11 (by decide) (by decide +kernel) dX11_type_13 ?_
      refine lv_lload_n hx hb dX11_type_16 rfl (lv_at hl 1 rfl) ?_
      refine lv_iload_n hx hb dX11_type_17 rfl (lv_at hl 2 rfl) ?_
      refine x_vi E h (As := [.long p1, .int 5]) (kX8_append_4 l g _ p1 fI_0) (oc_rt g) rfl gX11_type_X8_append rfl ⟨rfl, rfl⟩ rfl (by decide +kernel) ⟨Nat.le_of_ble_eq_true rfl, Nat.le_of_ble_eq_true rfl⟩ hl.1 rfl (Nat.le_of_ble_eq_true rfl) dX11_type_18 ⟨Nat.le_of_ble_eq_true rfl, Nat.le_of_ble_eq_true rfl⟩ (fun r6 s6 H locs q6 h => ?_)
      rcases q6 with ⟨rfl, z6_0, mo6⟩
      refine lv_if_eq (tgt := 34) hx hb dX11_type_21 (by decide) (fun c => absurd c (by decide)) (fun _ => ?_)
      refine lv_aload_n hx hb dX11_type_24 rfl (lv_at hl 0 rfl) ?_
      refine x_getR E h (fr_vh_ruleText g) rfl hwX11 (by decide) (by decide +kernel) dX11_type_25 ?_
      refine x_getIN E h (fi_rt_length g) rfl hwX8 (by decide) (by decide +kernel) (v := 5) z6_0 dX11_type_28 ?_
      refine lv_goto (tgt := 36) hx hb dX11_type_31 (by decide) ?_
      exact x_iret E h (Or.inl ⟨k1_0, rfl, mo6⟩) dX11_type_36
    · skip
      refine lv_aload_n hx hb dX11_type_12 rfl (lv_at hl 0 rfl) ?_
      refine x_getR E h (fr_vh_ruleText g) rfl hwX11 (by decide) (by decide +kernel) dX11_type_13 ?_
      refine lv_lload_n hx hb dX11_type_16 rfl (lv_at hl 1 rfl) ?_
      refine lv_iload_n hx hb dX11_type_17 rfl (lv_at hl 2 rfl) ?_
      refine x_vi E h (As := [.long p1, .int 6]) (kX8_append_5 l g _ p1 fI_0) (oc_rt g) rfl gX11_type_X8_append rfl ⟨rfl, rfl⟩ rfl (by decide +kernel) ⟨Nat.le_of_ble_eq_true rfl, Nat.le_of_ble_eq_true rfl⟩ hl.1 rfl (Nat.le_of_ble_eq_true rfl) dX11_type_18 ⟨Nat.le_of_ble_eq_true rfl, Nat.le_of_ble_eq_true rfl⟩ (fun r7 s7 H locs q7 h => ?_)
      rcases q7 with ⟨rfl, z7_0, mo7⟩
      refine lv_if_eq (tgt := 34) hx hb dX11_type_21 (by decide) (fun c => absurd c (by decide)) (fun _ => ?_)
      refine lv_aload_n hx hb dX11_type_24 rfl (lv_at hl 0 rfl) ?_
      refine x_getR E h (fr_vh_ruleText g) rfl hwX11 (by decide) (by decide +kernel) dX11_type_25 ?_
      refine x_getIN E h (fi_rt_length g) rfl hwX8 (by decide) (by decide +kernel) (v := 6) z7_0 dX11_type_28 ?_
      refine lv_goto (tgt := 36) hx hb dX11_type_31 (by decide) ?_
      exact x_iret E h (Or.inl ⟨k1_0, rfl, mo7⟩) dX11_type_36
    · skip
      refine lv_aload_n hx hb dX11_type_12 rfl (lv_at hl 0 rfl) ?_
      refine x_getR E h (fr_vh_ruleText g) rfl hwX11 (by decide) (by decide +kernel) dX11_type_13 ?_
      refine lv_lload_n hx hb dX11_type_16 rfl (lv_at hl 1 rfl) ?_
      refine lv_iload_n hx hb dX11_type_17 rfl (lv_at hl 2 rfl) ?_
      refine x_vi E h (As := [.long p1, .int 7]) (kX8_append_6 l g _ p1 fI_0) (oc_rt g) rfl gX11_type_X8_append rfl ⟨rfl, rfl⟩ rfl (by decide +kernel) ⟨Nat.le_of_ble_eq_true rfl, Nat.le_of_ble_eq_true rfl⟩ hl.1 rfl (Nat.le_of_ble_eq_true rfl) dX11_type_18 ⟨Nat.le_of_ble_eq_true rfl, Nat.le_of_ble_eq_true rfl⟩ (fun r8 s8 H locs q8 h => ?_)
      rcases q8 with ⟨rfl, z8_0, mo8⟩
      refine lv_if_eq (tgt := 34) hx hb dX11_type_21 (by decide) (fun c => absurd c (by decide)) (fun _ => ?_)
      refine lv_aload_n hx hb dX11_type_24 rfl (lv_at hl 0 rfl) ?_
      refine x_getR E h (fr_vh_ruleText g) rfl hwX11 (by decide) (by decide +kernel) dX11_type_25 ?_
      refine x_getIN E h (fi_rt_length g) rfl hwX8 (by decide) (by decide +kernel) (v := 7) z8_0 dX11_type_28 ?_
      refine lv_goto (tgt := 36) hx hb dX11_type_31 (by decide) ?_
      exact x_iret E h (Or.inl ⟨k1_0, rfl, mo8⟩) dX11_type_36
    · skip
      refine lv_aload_n hx hb dX11_type_12 rfl (lv_at hl 0 rfl) ?_
      refine x_getR E h (fr_vh_ruleText g) rfl hwX11 (by decide) (by decide +kernel) dX11_type_13 ?_
      refine lv_lload_n hx hb dX11_type_16 rfl (lv_at hl 1 rfl) ?_
      refine lv_iload_n hx hb dX11_type_17 rfl (lv_at hl 2 rfl) ?_
      refine x_vi E h (As := [.long p1, .int 8]) (kX8_append_7 l g _ p1 fI_0) (oc_rt g) rfl gX11_type_X8_append rfl ⟨rfl, rfl⟩ rfl (by decide +kernel) ⟨Nat.le_of_ble_eq_true rfl, Nat.le_of_ble_eq_true rfl⟩ hl.1 rfl (Nat.le_of_ble_eq_true rfl) dX11_type_18 ⟨Nat.le_of_ble_eq_true rfl, Nat.le_of_ble_eq_true rfl⟩ (fun r9 s9 H locs q9 h => ?_)
      rcases q9 with ⟨rfl, z9_0, mo9⟩
      refine lv_if_eq (tgt := 34) hx hb dX11_type_21 (by decide) (fun c => absurd c (by decide)) (fun _ => ?_)
      refine lv_aload_n hx hb dX11_type_24 rfl (lv_at hl 0 rfl) ?_
      refine x_getR E h (fr_vh_ruleText g) rfl hwX11 (by decide) (by decide +kernel) dX11_type_25 ?_
      refine x_getIN E h (fi_rt_length g) rfl hwX8 (by decide) (by decide +kernel) (v := 8) z9_0 dX11_type_28 ?_
      refine lv_goto (tgt := 36) hx hb dX11_type_31 (by decide) ?_
      exact x_iret E h (Or.inl ⟨k1_0, rfl, mo9⟩) dX11_type_36
  · skip
    refine lv_if_ne (tgt := 12) hx hb dX11_type_7 (by decide) (fun c => absurd (by decide) c) (fun _ => ?_)
    refine lv_iconst (v := (-1)) hx hb dX11_type_10 (by decide) ?_
    exact x_iret E h (Or.inr (⟨k1_0, rfl, (MO.refl σ)⟩)) dX11_type_11
set_option maxHeartbeats 4000000 in
set_option maxRecDepth 100000 in
theorem kX11_clear_0 (l : Launch) (g : CX) (σ : ST) (fI_0 : σ.1 0 = 0) : XM l g yX11_clear wsX11_clear { frames := 0, cells := 0, slots := 0, locals := 0 } [.ref (g.2.1 0)] σ (XQi g (fun r σ' => (r = 0 ∧ MO σ' σ))) := by
  refine x_met (own := RX11) (cc := cX11_clear) (maxL := 2) (ret := (some .int)) (lv := [(0, .ref (g.2.1 0))]) (by decide) rfl rfl (Nat.le_of_ble_eq_true rfl) rfl ?_
  intro p e s m args below meth c ls E h hl
  have hx := E.1
  have hb := E.2.1
  have hown := E.2.2.2.1
  have hts := E.2.2.2.2.1
  have hwX11 : ∀ w ∈ wsX110, w ∈ wsX11_clear := by decide +kernel
  have hwX8 : ∀ w ∈ wsX80, w ∈ wsX11_clear := by decide +kernel
  refine lv_aload_n hx hb dX11_clear_0 rfl (lv_at hl 0 rfl) ?_
  refine x_getR E h (fr_vh_ruleText g) rfl hwX11 (by decide) (by decide +kernel) dX11_clear_1 ?_
  refine x_getIN E h (fi_rt_length g) rfl hwX8 (by decide) (by decide +kernel) (v := 0) fI_0 dX11_clear_4 ?_
  refine lv_istore_n (lv' := [(1, .int 0), (0, .ref (g.2.1 0))]) hx hb dX11_clear_7 rfl hl (by decide) rfl (fun ls hl => ?_)
  refine lv_aload_n hx hb dX11_clear_8 rfl (lv_at hl 1 rfl) ?_
  refine x_getR E h (fr_vh_ruleText g) rfl hwX11 (by decide) (by decide +kernel) dX11_clear_9 ?_
  refine lv_iconst (v := 0) hx hb dX11_clear_12 (by decide) ?_
  refine x_putIN E h (ty := .int) (v := 0) (fi_rt_length g) rfl hwX8 tyX8_ok nmX8 (by decide) (by decide +kernel) (by decide +kernel) (by decide +kernel) rfl rfl dX11_clear_13 (fun H locs h => ?_)
  refine lv_iload_n hx hb dX11_clear_16 rfl (lv_at hl 0 rfl) ?_
  exact x_iret E h ⟨rfl, (MO.refl σ)⟩ dX11_clear_17
set_option maxHeartbeats 4000000 in
set_option maxRecDepth 100000 in
theorem kX8_endsBehindBlanks_0 (l : Launch) (g : CX) (σ : ST) (fI_0 : σ.1 0 = 0) (fI_1 : σ.1 1 = 0) : XM l g yX8_endsBehindBlanks wsX8_endsBehindBlanks { frames := 0, cells := 0, slots := 0, locals := 0 } [.ref (g.2.1 1)] σ (XQi g (fun r σ' => (r = 1 ∧ σ' = σ))) := by
  refine x_met (own := RX8) (cc := cX8_endsBehindBlanks) (maxL := 1) (ret := (some .boolean)) (lv := [(0, .ref (g.2.1 1))]) (by decide) rfl rfl (Nat.le_of_ble_eq_true rfl) rfl ?_
  intro p e s m args below meth c ls E h hl
  have hx := E.1
  have hb := E.2.1
  have hown := E.2.2.2.1
  have hts := E.2.2.2.2.1
  have hwX8 : ∀ w ∈ wsX80, w ∈ wsX8_endsBehindBlanks := by decide +kernel
  refine lv_aload_n hx hb dX8_endsBehindBlanks_0 rfl (lv_at hl 0 rfl) ?_
  refine x_getI E h (fi_rt_at g) rfl hwX8 (by decide) (by decide +kernel) (v := 0) fI_1 dX8_endsBehindBlanks_1 ?_
  refine lv_aload_n hx hb dX8_endsBehindBlanks_4 rfl (lv_at hl 0 rfl) ?_
  refine x_getI E h (fi_rt_length g) rfl hwX8 (by decide) (by decide +kernel) (v := 0) fI_0 dX8_endsBehindBlanks_5 ?_
  refine lv_icmp_ge (tgt := 38) hx hb dX8_endsBehindBlanks_8 (by decide) (fun _ => ?_) (fun c => absurd (by decide) c)
  refine lv_aload_n hx hb dX8_endsBehindBlanks_38 rfl (lv_at hl 0 rfl) ?_
  refine x_getI E h (fi_rt_at g) rfl hwX8 (by decide) (by decide +kernel) (v := 0) fI_1 dX8_endsBehindBlanks_39 ?_
  refine lv_aload_n hx hb dX8_endsBehindBlanks_42 rfl (lv_at hl 0 rfl) ?_
  refine x_getI E h (fi_rt_length g) rfl hwX8 (by decide) (by decide +kernel) (v := 0) fI_0 dX8_endsBehindBlanks_43 ?_
  refine lv_icmp_lt (tgt := 53) hx hb dX8_endsBehindBlanks_46 (by decide) (fun c => absurd c (by decide)) (fun _ => ?_)
  refine lv_iconst (v := 1) hx hb dX8_endsBehindBlanks_49 (by decide) ?_
  refine lv_goto (tgt := 54) hx hb dX8_endsBehindBlanks_50 (by decide) ?_
  exact x_zret E h rfl ⟨rfl, rfl⟩ dX8_endsBehindBlanks_54
set_option maxHeartbeats 4000000 in
set_option maxRecDepth 100000 in
theorem kX8_adopt_0 (l : Launch) (g : CX) (σ : ST) (fA_2_0 : σ.2.2 2 0 = (-1)) (fA_2_1 : σ.2.2 2 1 = (-1)) (fA_2_2 : σ.2.2 2 2 = (-1)) (fA_2_3 : σ.2.2 2 3 = (-1)) (fA_2_4 : σ.2.2 2 4 = (-1)) (fA_2_5 : σ.2.2 2 5 = (-1)) : XM l g yX8_adopt wsX8_adopt { frames := 0, cells := 0, slots := 0, locals := 0 } [.ref (g.2.1 1)] σ (XQv g (fun σ' => (σ' = (sI (sA (sA (sA (sA (sA (sA σ 1 (upd (σ.2.2 1) 0 20)) 1 (upd (upd (σ.2.2 1) 0 20) 1 10)) 1 (upd (upd (upd (σ.2.2 1) 0 20) 1 10) 2 40)) 1 (upd (upd (upd (upd (σ.2.2 1) 0 20) 1 10) 2 40) 3 0)) 1 (upd (upd (upd (upd (upd (σ.2.2 1) 0 20) 1 10) 2 40) 3 0) 4 0)) 1 (upd (upd (upd (upd (upd (upd (σ.2.2 1) 0 20) 1 10) 2 40) 3 0) 4 0) 5 10)) 0 0)))) := by
  refine x_met (own := RX8) (cc := cX8_adopt) (maxL := 2) (ret := none) (lv := [(0, .ref (g.2.1 1))]) (by decide) rfl rfl (Nat.le_of_ble_eq_true rfl) rfl ?_
  intro p e s m args below meth c ls E h hl
  have hx := E.1
  have hb := E.2.1
  have hown := E.2.2.2.1
  have hts := E.2.2.2.2.1
  have hwX8 : ∀ w ∈ wsX80, w ∈ wsX8_adopt := by decide +kernel
  refine lv_iconst (v := 0) hx hb dX8_adopt_0 (by decide) ?_
  refine lv_istore_n (lv' := [(1, .int 0), (0, .ref (g.2.1 1))]) hx hb dX8_adopt_1 rfl hl (by decide) rfl (fun ls hl => ?_)
  refine lv_iload_n hx hb dX8_adopt_2 rfl (lv_at hl 0 rfl) ?_
  refine lv_bipush (v := 6) hx hb dX8_adopt_3 (by decide) ?_
  refine lv_icmp_ge (tgt := 44) hx hb dX8_adopt_5 (by decide) (fun c => absurd c (by decide)) (fun _ => ?_)
  refine lv_aload_n hx hb dX8_adopt_8 rfl (lv_at hl 1 rfl) ?_
  refine x_getR E h (fr_rt_now g) rfl hwX8 (by decide) (by decide +kernel) dX8_adopt_9 ?_
  refine lv_iload_n hx hb dX8_adopt_12 rfl (lv_at hl 0 rfl) ?_
  refine lv_aload_n hx hb dX8_adopt_13 rfl (lv_at hl 1 rfl) ?_
  refine x_getR E h (fr_rt_told g) rfl hwX8 (by decide) (by decide +kernel) dX8_adopt_14 ?_
  refine lv_iload_n hx hb dX8_adopt_17 rfl (lv_at hl 0 rfl) ?_
  refine x_ldI E h (ia_rt_told g) (i := 0) (by unfold vp_in; decide) (v := (-1)) fA_2_0 dX8_adopt_18 ?_
  refine lv_iconst (v := (-1)) hx hb dX8_adopt_19 (by decide) ?_
  refine lv_icmp_ne (tgt := 31) hx hb dX8_adopt_20 (by decide) (fun c => absurd (by decide) c) (fun _ => ?_)
  refine x_gets0 E h (by decide +kernel) dX8_adopt_23 ?_
  refine lv_iload_n hx hb dX8_adopt_26 rfl (lv_at hl 0 rfl) ?_
  refine x_tab0 E h (i := 0) (v := 20) (by unfold vp_in; decide) rfl dX8_adopt_27 ?_
  refine lv_goto (tgt := 37) hx hb dX8_adopt_28 (by decide) ?_
  refine x_stI E h (ia_rt_now g) (i := 0) (by unfold vp_in; decide) (j := (0)) rfl rfl dX8_adopt_37 (fun H locs h => ?_)
  refine lv_iinc (v := 1) (lv' := [(1, .int 1), (0, .ref (g.2.1 1))]) hx hb dX8_adopt_38 hl (k := 0) rfl (by decide) (by decide) rfl (fun ls hl => ?_)
  refine lv_goto (tgt := 2) hx hb dX8_adopt_41 (by decide) ?_
  refine lv_iload_n hx hb dX8_adopt_2 rfl (lv_at hl 0 rfl) ?_
  refine lv_bipush (v := 6) hx hb dX8_adopt_3 (by decide) ?_
  refine lv_icmp_ge (tgt := 44) hx hb dX8_adopt_5 (by decide) (fun c => absurd c (by decide)) (fun _ => ?_)
  refine lv_aload_n hx hb dX8_adopt_8 rfl (lv_at hl 1 rfl) ?_
  refine x_getR E h (fr_rt_now g) rfl hwX8 (by decide) (by decide +kernel) dX8_adopt_9 ?_
  refine lv_iload_n hx hb dX8_adopt_12 rfl (lv_at hl 0 rfl) ?_
  refine lv_aload_n hx hb dX8_adopt_13 rfl (lv_at hl 1 rfl) ?_
  refine x_getR E h (fr_rt_told g) rfl hwX8 (by decide) (by decide +kernel) dX8_adopt_14 ?_
  refine lv_iload_n hx hb dX8_adopt_17 rfl (lv_at hl 0 rfl) ?_
  refine x_ldI E h (ia_rt_told g) (i := 1) (by unfold vp_in; decide) (v := (-1)) fA_2_1 dX8_adopt_18 ?_
  refine lv_iconst (v := (-1)) hx hb dX8_adopt_19 (by decide) ?_
  refine lv_icmp_ne (tgt := 31) hx hb dX8_adopt_20 (by decide) (fun c => absurd (by decide) c) (fun _ => ?_)
  refine x_gets0 E h (by decide +kernel) dX8_adopt_23 ?_
  refine lv_iload_n hx hb dX8_adopt_26 rfl (lv_at hl 0 rfl) ?_
  refine x_tab0 E h (i := 1) (v := 10) (by unfold vp_in; decide) rfl dX8_adopt_27 ?_
  refine lv_goto (tgt := 37) hx hb dX8_adopt_28 (by decide) ?_
  refine x_stI E h (ia_rt_now g) (i := 1) (by unfold vp_in; decide) (j := (1)) rfl rfl dX8_adopt_37 (fun H locs h => ?_)
  refine lv_iinc (v := 2) (lv' := [(1, .int 2), (0, .ref (g.2.1 1))]) hx hb dX8_adopt_38 hl (k := 0) rfl (by decide) (by decide) rfl (fun ls hl => ?_)
  refine lv_goto (tgt := 2) hx hb dX8_adopt_41 (by decide) ?_
  refine lv_iload_n hx hb dX8_adopt_2 rfl (lv_at hl 0 rfl) ?_
  refine lv_bipush (v := 6) hx hb dX8_adopt_3 (by decide) ?_
  refine lv_icmp_ge (tgt := 44) hx hb dX8_adopt_5 (by decide) (fun c => absurd c (by decide)) (fun _ => ?_)
  refine lv_aload_n hx hb dX8_adopt_8 rfl (lv_at hl 1 rfl) ?_
  refine x_getR E h (fr_rt_now g) rfl hwX8 (by decide) (by decide +kernel) dX8_adopt_9 ?_
  refine lv_iload_n hx hb dX8_adopt_12 rfl (lv_at hl 0 rfl) ?_
  refine lv_aload_n hx hb dX8_adopt_13 rfl (lv_at hl 1 rfl) ?_
  refine x_getR E h (fr_rt_told g) rfl hwX8 (by decide) (by decide +kernel) dX8_adopt_14 ?_
  refine lv_iload_n hx hb dX8_adopt_17 rfl (lv_at hl 0 rfl) ?_
  refine x_ldI E h (ia_rt_told g) (i := 2) (by unfold vp_in; decide) (v := (-1)) fA_2_2 dX8_adopt_18 ?_
  refine lv_iconst (v := (-1)) hx hb dX8_adopt_19 (by decide) ?_
  refine lv_icmp_ne (tgt := 31) hx hb dX8_adopt_20 (by decide) (fun c => absurd (by decide) c) (fun _ => ?_)
  refine x_gets0 E h (by decide +kernel) dX8_adopt_23 ?_
  refine lv_iload_n hx hb dX8_adopt_26 rfl (lv_at hl 0 rfl) ?_
  refine x_tab0 E h (i := 2) (v := 40) (by unfold vp_in; decide) rfl dX8_adopt_27 ?_
  refine lv_goto (tgt := 37) hx hb dX8_adopt_28 (by decide) ?_
  refine x_stI E h (ia_rt_now g) (i := 2) (by unfold vp_in; decide) (j := (2)) rfl rfl dX8_adopt_37 (fun H locs h => ?_)
  refine lv_iinc (v := 3) (lv' := [(1, .int 3), (0, .ref (g.2.1 1))]) hx hb dX8_adopt_38 hl (k := 0) rfl (by decide) (by decide) rfl (fun ls hl => ?_)
  refine lv_goto (tgt := 2) hx hb dX8_adopt_41 (by decide) ?_
  refine lv_iload_n hx hb dX8_adopt_2 rfl (lv_at hl 0 rfl) ?_
  refine lv_bipush (v := 6) hx hb dX8_adopt_3 (by decide) ?_
  refine lv_icmp_ge (tgt := 44) hx hb dX8_adopt_5 (by decide) (fun c => absurd c (by decide)) (fun _ => ?_)
  refine lv_aload_n hx hb dX8_adopt_8 rfl (lv_at hl 1 rfl) ?_
  refine x_getR E h (fr_rt_now g) rfl hwX8 (by decide) (by decide +kernel) dX8_adopt_9 ?_
  refine lv_iload_n hx hb dX8_adopt_12 rfl (lv_at hl 0 rfl) ?_
  refine lv_aload_n hx hb dX8_adopt_13 rfl (lv_at hl 1 rfl) ?_
  refine x_getR E h (fr_rt_told g) rfl hwX8 (by decide) (by decide +kernel) dX8_adopt_14 ?_
  refine lv_iload_n hx hb dX8_adopt_17 rfl (lv_at hl 0 rfl) ?_
  refine x_ldI E h (ia_rt_told g) (i := 3) (by unfold vp_in; decide) (v := (-1)) fA_2_3 dX8_adopt_18 ?_
  refine lv_iconst (v := (-1)) hx hb dX8_adopt_19 (by decide) ?_
  refine lv_icmp_ne (tgt := 31) hx hb dX8_adopt_20 (by decide) (fun c => absurd (by decide) c) (fun _ => ?_)
  refine x_gets0 E h (by decide +kernel) dX8_adopt_23 ?_
  refine lv_iload_n hx hb dX8_adopt_26 rfl (lv_at hl 0 rfl) ?_
  refine x_tab0 E h (i := 3) (v := 0) (by unfold vp_in; decide) rfl dX8_adopt_27 ?_
  refine lv_goto (tgt := 37) hx hb dX8_adopt_28 (by decide) ?_
  refine x_stI E h (ia_rt_now g) (i := 3) (by unfold vp_in; decide) (j := (3)) rfl rfl dX8_adopt_37 (fun H locs h => ?_)
  refine lv_iinc (v := 4) (lv' := [(1, .int 4), (0, .ref (g.2.1 1))]) hx hb dX8_adopt_38 hl (k := 0) rfl (by decide) (by decide) rfl (fun ls hl => ?_)
  refine lv_goto (tgt := 2) hx hb dX8_adopt_41 (by decide) ?_
  refine lv_iload_n hx hb dX8_adopt_2 rfl (lv_at hl 0 rfl) ?_
  refine lv_bipush (v := 6) hx hb dX8_adopt_3 (by decide) ?_
  refine lv_icmp_ge (tgt := 44) hx hb dX8_adopt_5 (by decide) (fun c => absurd c (by decide)) (fun _ => ?_)
  refine lv_aload_n hx hb dX8_adopt_8 rfl (lv_at hl 1 rfl) ?_
  refine x_getR E h (fr_rt_now g) rfl hwX8 (by decide) (by decide +kernel) dX8_adopt_9 ?_
  refine lv_iload_n hx hb dX8_adopt_12 rfl (lv_at hl 0 rfl) ?_
  refine lv_aload_n hx hb dX8_adopt_13 rfl (lv_at hl 1 rfl) ?_
  refine x_getR E h (fr_rt_told g) rfl hwX8 (by decide) (by decide +kernel) dX8_adopt_14 ?_
  refine lv_iload_n hx hb dX8_adopt_17 rfl (lv_at hl 0 rfl) ?_
  refine x_ldI E h (ia_rt_told g) (i := 4) (by unfold vp_in; decide) (v := (-1)) fA_2_4 dX8_adopt_18 ?_
  refine lv_iconst (v := (-1)) hx hb dX8_adopt_19 (by decide) ?_
  refine lv_icmp_ne (tgt := 31) hx hb dX8_adopt_20 (by decide) (fun c => absurd (by decide) c) (fun _ => ?_)
  refine x_gets0 E h (by decide +kernel) dX8_adopt_23 ?_
  refine lv_iload_n hx hb dX8_adopt_26 rfl (lv_at hl 0 rfl) ?_
  refine x_tab0 E h (i := 4) (v := 0) (by unfold vp_in; decide) rfl dX8_adopt_27 ?_
  refine lv_goto (tgt := 37) hx hb dX8_adopt_28 (by decide) ?_
  refine x_stI E h (ia_rt_now g) (i := 4) (by unfold vp_in; decide) (j := (4)) rfl rfl dX8_adopt_37 (fun H locs h => ?_)
  refine lv_iinc (v := 5) (lv' := [(1, .int 5), (0, .ref (g.2.1 1))]) hx hb dX8_adopt_38 hl (k := 0) rfl (by decide) (by decide) rfl (fun ls hl => ?_)
  refine lv_goto (tgt := 2) hx hb dX8_adopt_41 (by decide) ?_
  refine lv_iload_n hx hb dX8_adopt_2 rfl (lv_at hl 0 rfl) ?_
  refine lv_bipush (v := 6) hx hb dX8_adopt_3 (by decide) ?_
  refine lv_icmp_ge (tgt := 44) hx hb dX8_adopt_5 (by decide) (fun c => absurd c (by decide)) (fun _ => ?_)
  refine lv_aload_n hx hb dX8_adopt_8 rfl (lv_at hl 1 rfl) ?_
  refine x_getR E h (fr_rt_now g) rfl hwX8 (by decide) (by decide +kernel) dX8_adopt_9 ?_
  refine lv_iload_n hx hb dX8_adopt_12 rfl (lv_at hl 0 rfl) ?_
  refine lv_aload_n hx hb dX8_adopt_13 rfl (lv_at hl 1 rfl) ?_
  refine x_getR E h (fr_rt_told g) rfl hwX8 (by decide) (by decide +kernel) dX8_adopt_14 ?_
  refine lv_iload_n hx hb dX8_adopt_17 rfl (lv_at hl 0 rfl) ?_
  refine x_ldI E h (ia_rt_told g) (i := 5) (by unfold vp_in; decide) (v := (-1)) fA_2_5 dX8_adopt_18 ?_
  refine lv_iconst (v := (-1)) hx hb dX8_adopt_19 (by decide) ?_
  refine lv_icmp_ne (tgt := 31) hx hb dX8_adopt_20 (by decide) (fun c => absurd (by decide) c) (fun _ => ?_)
  refine x_gets0 E h (by decide +kernel) dX8_adopt_23 ?_
  refine lv_iload_n hx hb dX8_adopt_26 rfl (lv_at hl 0 rfl) ?_
  refine x_tab0 E h (i := 5) (v := 10) (by unfold vp_in; decide) rfl dX8_adopt_27 ?_
  refine lv_goto (tgt := 37) hx hb dX8_adopt_28 (by decide) ?_
  refine x_stI E h (ia_rt_now g) (i := 5) (by unfold vp_in; decide) (j := (5)) rfl rfl dX8_adopt_37 (fun H locs h => ?_)
  refine lv_iinc (v := 6) (lv' := [(1, .int 6), (0, .ref (g.2.1 1))]) hx hb dX8_adopt_38 hl (k := 0) rfl (by decide) (by decide) rfl (fun ls hl => ?_)
  refine lv_goto (tgt := 2) hx hb dX8_adopt_41 (by decide) ?_
  refine lv_iload_n hx hb dX8_adopt_2 rfl (lv_at hl 0 rfl) ?_
  refine lv_bipush (v := 6) hx hb dX8_adopt_3 (by decide) ?_
  refine lv_icmp_ge (tgt := 44) hx hb dX8_adopt_5 (by decide) (fun _ => ?_) (fun c => absurd (by decide) c)
  refine lv_aload_n hx hb dX8_adopt_44 rfl (lv_at hl 1 rfl) ?_
  refine lv_iconst (v := 0) hx hb dX8_adopt_45 (by decide) ?_
  refine x_putI E h (ty := .int) (v := 0) (fi_rt_length g) rfl hwX8 tyX8_ok nmX8 (by decide) (by decide +kernel) (by decide +kernel) (by decide +kernel) rfl rfl dX8_adopt_46 (fun H locs h => ?_)
  exact x_vret E h rfl dX8_adopt_49
end
